/-! PURE 8: the digest, typing, what one has -/
theorem k0 : ¬ ((0 : Int32) < 0 ∨ 960 ≤ (0 : Int32).toNatClampNeg) ∧ (0 : Int32).toNatClampNeg = 0 ∧ ¬ ((0 : Int32) < 0 ∨ 960 ≤ 0) := by decide
theorem k73 : ¬ ((73 : Int32) < 0 ∨ 960 ≤ (73 : Int32).toNatClampNeg) ∧ (73 : Int32).toNatClampNeg = 73 ∧ ¬ ((73 : Int32) < 0 ∨ 960 ≤ 73) := by decide
theorem k89 : ¬ ((89 : Int32) < 0 ∨ 960 ≤ (89 : Int32).toNatClampNeg) ∧ (89 : Int32).toNatClampNeg = 89 ∧ ¬ ((89 : Int32) < 0 ∨ 960 ≤ 89) := by decide
def mx (g : Nat → Int64) : Nat → Int64 → Int64 | 0, h => h | n + 1, h => 31 * mx g n h + g n
theorem mx_c {wd rows : Int32} {R N : Nat} {cells : Nat → Int64} (hr : rows * wd = nI R) (hR : R ≤ N) (hN : N < 1000) (h : Int64) : ∀ d fu k, d + k = R → d < fu → f_X8_mixedInto_L2 wd N rows cells fu (mx cells k h) (nI k) = some (mx cells R h) := by
  intro d
  induction d with
  | zero =>
    intro fu k hk hf
    obtain ⟨fu, rfl⟩ : ∃ m, fu = m + 1 := ⟨fu - 1, by omega⟩
    have e : k = R := by omega
    subst e
    rw [f_X8_mixedInto_L2, hr, if_pos (Int32.le_refl _)]
  | succ d ih =>
    intro fu k hk hf
    obtain ⟨fu, rfl⟩ : ∃ m, fu = m + 1 := ⟨fu - 1, by omega⟩
    rw [f_X8_mixedInto_L2, hr, if_neg (nI_ge (a := k) (b := R) (by omega) (by omega)), if_neg (nge (by omega) (by omega)), if_neg (gi (by omega) (by omega)), nI_clamp (by omega), nI_1]
    exact ih fu (k + 1) (by omega) (by omega)
theorem mx8 {wd rows : Int32} (R : Nat) {N : Nat} {cells : Nat → Int64} (hr : rows * wd = nI R) (hR : R ≤ N) (hN : N < 1000) (h : Int64) : f_X8_mixedInto wd N rows cells h = some (mx cells R h) := mx_c hr hR hN h R FU 0 (by omega) (FU1 (by omega))
theorem mxA {w : Nat → Int32} {g : Nat → Int64} {a n : Nat} (ha : a + n ≤ 960) (hg : ∀ j, j < n → g j = (w (a + j)).toInt64) (hn : n ≤ 100) (h : Int64) : ∀ d fu k, d + k = n → d < fu → f_X11_mixAll_L2 w fu (mx g k h) (nI a) (nI n) (nI k) = some (mx g n h) := by
  intro d
  induction d with
  | zero =>
    intro fu k hk hf
    obtain ⟨fu, rfl⟩ : ∃ m, fu = m + 1 := ⟨fu - 1, by omega⟩
    have e : k = n := by omega
    subst e
    rw [f_X11_mixAll_L2, if_pos (Int32.le_refl _)]
  | succ d ih =>
    intro fu k hk hf
    obtain ⟨fu, rfl⟩ : ∃ m, fu = m + 1 := ⟨fu - 1, by omega⟩
    rw [f_X11_mixAll_L2, if_neg (nI_ge (a := k) (b := n) (by omega) (by omega)), nI_add, if_neg (gi (by omega) (by omega)), nI_clamp (by omega), nI_1, ← hg k (by omega), f_X11_mix, Option.bind_some]
    exact ih fu (k + 1) (by omega) (by omega)
theorem tally_eq {now : HallV} {kp tlen mtexted mundo : Int32} {mw : Nat → Int32} {mnames : Nat → Int64} (h : HRel now mw mnames 0 0) (ht : tlen = mtexted) (hk : kp = mundo) (k : Nat) (hk5 : k ≤ 5) : ∃ r, f_X10_tally now kp tlen (nI k) = some r ∧ f_X11_countOf mw mtexted mundo (nI k) = some r := by
  obtain ⟨M, T, K, ⟨hM, hT, hK⟩, ⟨a1, a2⟩, ⟨b1, b2⟩, ⟨c1, c2⟩, hrows, hp, ht', hq, hs, hk', hd, hd2⟩ := id h
  subst ht hk
  match k, hk5 with
  | 0, _ => exact ⟨nI M, by rw [← a1]; rfl, by rw [← a2]; rfl⟩
  | 1, _ => exact ⟨nI T, by rw [← b1]; rfl, by rw [← b2]; rfl⟩
  | 2, _ => exact ⟨nI K, by rw [← c1]; rfl, by rw [← c2]; rfl⟩
  | 3, _ => exact ⟨_, rfl, rfl⟩
  | 4, _ => exact ⟨_, rfl, rfl⟩
  | 5, _ => exact ⟨mw 115, by rw [show mw 115 = now.2.2 from hd.symm]; rfl, rfl⟩
theorem dg1 {fab fbe : Int64} {now : HallV} {kp tlen mtexted mundo : Int32} {mw : Nat → Int32} {mnames : Nat → Int64} (hr : HRel now mw mnames 0 0) (ht : tlen = mtexted) (hkp : kp = mundo) : ∀ d fu fu' k h, d + k = 6 → d < fu → d < fu' → ∃ h', f_X10_digest_L6 fab fbe now kp tlen fu h (nI k) = Option.bind (f_X1_mixedInto now h') (fun q35 => some (((31 : Int64) * (((31 : Int64) * q35) + fab)) + fbe)) ∧ f_X11_digest_L9 mw mnames mtexted mundo fab fbe fu' h (nI k) = f_X11_digest_L33 mw mnames mtexted mundo fab fbe FU h' (0 : Int32) := by
  intro d
  induction d with
  | zero =>
    intro fu fu' k h hk hf hf'
    obtain ⟨fu, rfl⟩ : ∃ m, fu = m + 1 := ⟨fu - 1, by omega⟩
    obtain ⟨fu', rfl⟩ : ∃ m, fu' = m + 1 := ⟨fu' - 1, by omega⟩
    have e : k = 6 := by omega
    subst e
    exact ⟨h, by rw [f_X10_digest_L6, if_pos (by decide)], by rw [f_X11_digest_L9, if_pos (by decide)]⟩
  | succ d ih =>
    intro fu fu' k h hk hf hf'
    obtain ⟨fu, rfl⟩ : ∃ m, fu = m + 1 := ⟨fu - 1, by omega⟩
    obtain ⟨fu', rfl⟩ : ∃ m, fu' = m + 1 := ⟨fu' - 1, by omega⟩
    obtain ⟨r, r1, r2⟩ := tally_eq hr ht hkp k (by omega)
    have n5 : ¬ (5 : Int32) < nI k := nI_nlt (a := 5) (b := k) (by omega) (by decide)
    have n6 : ¬ (6 : Int32) ≤ nI k := nI_ge (a := k) (b := 6) (by omega) (by decide)
    rw [f_X10_digest_L6, if_neg n5, f_X11_digest_L9, if_neg n6, r1, r2]
    simp only [Option.bind_some, f_X11_mix, nI_1]
    exact ih fu fu' (k + 1) _ (by omega) (by omega) (by omega)
theorem dgP {v : HallV} {w : Nat → Int32} {nm : Nat → Int64} {te un : Int32} {ab be : Int64} {M : Nat} (hM : M ≤ 12) (a2 : w 0 = nI M) (hp : ∀ p, p < M → PRel v w nm 0 0 p) (h : Int64) : ∀ d fu p, d + p = M → d < fu → f_X11_digest_L33 w nm te un ab be fu (mx (v.2.1 0) (p * 7) h) (nI p) = f_X11_digest_L144 w nm te un ab be FU (mx (v.2.1 0) (M * 7) h) (0 : Int32) := by
  intro d
  induction d with
  | zero =>
    intro fu p hk hf
    obtain ⟨fu, rfl⟩ : ∃ m, fu = m + 1 := ⟨fu - 1, by omega⟩
    have e : p = M := by omega
    subst e
    rw [f_X11_digest_L33, if_neg k0.1, k0.2.1, a2, if_pos (Int32.le_refl _)]
  | succ d ih =>
    intro fu p hk hf
    obtain ⟨fu, rfl⟩ : ∃ m, fu = m + 1 := ⟨fu - 1, by omega⟩
    have := hp p (by omega)
    unfold PRel at this
    simp only [Nat.zero_add] at this
    obtain ⟨q0, _, ⟨q1, _⟩, ⟨q2, _⟩, ⟨q3, _⟩, ⟨q4, _⟩, ⟨q5, _⟩, ⟨q6, _⟩⟩ := this
    have m1 : (1 : Int32) + nI p = nI (1 + p) := nI_add 1 p
    have m2 : (13 : Int32) + nI p = nI (13 + p) := nI_add 13 p
    have m3 : (25 : Int32) + nI p = nI (25 + p) := nI_add 25 p
    have m4 : (37 : Int32) + nI p = nI (37 + p) := nI_add 37 p
    have m5 : (49 : Int32) + nI p = nI (49 + p) := nI_add 49 p
    have m6 : (61 : Int32) + nI p = nI (61 + p) := nI_add 61 p
    have nl : ¬ nI M ≤ nI p := nI_ge (a := p) (b := M) (by omega) (by omega)
    rw [f_X11_digest_L33, if_neg k0.1, k0.2.1, a2, if_neg nl, if_neg (gi (N := 96) (by omega) (by omega)), m1, m2, m3, m4, m5, m6]
    simp (disch := omega) only [f_X11_mix, Option.bind_some, gg, gg', nI_clamp, nI_1, ← q0, ← q1, ← q2, ← q3, ← q4, ← q5, ← q6]
    have e := ih fu (p + 1) (by omega) (by omega)
    rw [show (p + 1) * 7 = p * 7 + 7 from by omega] at e
    exact e
theorem dgT {v : HallV} {w : Nat → Int32} {nm : Nat → Int64} {te un : Int32} {ab be : Int64} {T : Nat} (hT : T ≤ 5) (b2 : w 73 = nI T) (hp : ∀ t, t < T → TRel v w 0 t) (h : Int64) : ∀ d fu p, d + p = T → d < fu → f_X11_digest_L144 w nm te un ab be fu (mx (v.2.1 1) (p * 3) h) (nI p) = f_X11_digest_L205 w nm te un ab be FU (mx (v.2.1 1) (T * 3) h) (0 : Int32) := by
  intro d
  induction d with
  | zero =>
    intro fu p hk hf
    obtain ⟨fu, rfl⟩ : ∃ m, fu = m + 1 := ⟨fu - 1, by omega⟩
    have e : p = T := by omega
    subst e
    rw [f_X11_digest_L144, if_neg k73.1, k73.2.1, b2, if_pos (Int32.le_refl _)]
  | succ d ih =>
    intro fu p hk hf
    obtain ⟨fu, rfl⟩ : ∃ m, fu = m + 1 := ⟨fu - 1, by omega⟩
    have := hp p (by omega)
    unfold TRel at this
    simp only [Nat.zero_add] at this
    obtain ⟨⟨q1, _⟩, ⟨q2, _⟩, ⟨q3, _⟩⟩ := this
    have m1 : (74 : Int32) + nI p = nI (74 + p) := nI_add 74 p
    have m2 : (79 : Int32) + nI p = nI (79 + p) := nI_add 79 p
    have m3 : (84 : Int32) + nI p = nI (84 + p) := nI_add 84 p
    have nl : ¬ nI T ≤ nI p := nI_ge (a := p) (b := T) (by omega) (by omega)
    rw [f_X11_digest_L144, if_neg k73.1, k73.2.1, b2, if_neg nl, m1, m2, m3]
    simp (disch := omega) only [f_X11_mix, Option.bind_some, gg, gg', nI_clamp, nI_1, ← q1, ← q2, ← q3]
    have e := ih fu (p + 1) (by omega) (by omega)
    rw [show (p + 1) * 3 = p * 3 + 3 from by omega] at e
    exact e
theorem dgQ {v : HallV} {w : Nat → Int32} {nm : Nat → Int64} {te un : Int32} {ab be : Int64} {K : Nat} (hK : K ≤ 6) (c2 : w 89 = nI K) (hp : ∀ t, t < K → QRel v w 0 t) (hs : ∀ c, c < 8 → v.2.1 3 c = (w (102 + c)).toInt64) (hk' : ∀ c, c < 5 → v.2.1 4 c = (w (110 + c)).toInt64) (h : Int64) : ∀ d fu p, d + p = K → d < fu → f_X11_digest_L205 w nm te un ab be fu (mx (v.2.1 2) (p * 2) h) (nI p) = some ((31 : Int64) * ((31 : Int64) * mx (v.2.1 4) 5 (mx (v.2.1 3) 8 (mx (v.2.1 2) (K * 2) h)) + ab) + be, (31 : Int64) * ((31 : Int64) * mx (v.2.1 4) 5 (mx (v.2.1 3) 8 (mx (v.2.1 2) (K * 2) h)) + ab) + be) := by
  intro d
  induction d with
  | zero =>
    intro fu p hk hf
    obtain ⟨fu, rfl⟩ : ∃ m, fu = m + 1 := ⟨fu - 1, by omega⟩
    have e : p = K := by omega
    subst e
    have e1 : ∀ h', f_X11_mixAll w h' (102 : Int32) (8 : Int32) = some (mx (v.2.1 3) 8 h') := fun h' => mxA (a := 102) (n := 8) (by decide) hs (by decide) h' 8 FU 0 (by omega) (FU1 (by omega))
    have e2 : ∀ h', f_X11_mixAll w h' (110 : Int32) (5 : Int32) = some (mx (v.2.1 4) 5 h') := fun h' => mxA (a := 110) (n := 5) (by decide) hk' (by decide) h' 5 FU 0 (by omega) (FU1 (by omega))
    rw [f_X11_digest_L205, if_neg k89.1, k89.2.1, c2, if_pos (Int32.le_refl _), e1]
    simp only [Option.bind_some, e2, f_X11_mix]
  | succ d ih =>
    intro fu p hk hf
    obtain ⟨fu, rfl⟩ : ∃ m, fu = m + 1 := ⟨fu - 1, by omega⟩
    have := hp p (by omega)
    unfold QRel at this
    simp only [Nat.zero_add] at this
    obtain ⟨⟨q1, _⟩, ⟨q2, _⟩⟩ := this
    have m1 : (90 : Int32) + nI p = nI (90 + p) := nI_add 90 p
    have m2 : (96 : Int32) + nI p = nI (96 + p) := nI_add 96 p
    have nl : ¬ nI K ≤ nI p := nI_ge (a := p) (b := K) (by omega) (by omega)
    rw [f_X11_digest_L205, if_neg k89.1, k89.2.1, c2, if_neg nl, m1, m2]
    simp (disch := omega) only [f_X11_mix, Option.bind_some, gg, gg', nI_clamp, nI_1, ← q1, ← q2]
    have e := ih fu (p + 1) (by omega) (by omega)
    rw [show (p + 1) * 2 = p * 2 + 2 from by omega] at e
    exact e
theorem ctp {bads noes fulls : Int32} {n : Nat} (h : n < 2 ^ 31) : f_X10_counted bads noes fulls (nI n) = some (nI n, bads, noes, fulls) := by
  have q : ∀ m : Int32, m < 0 → ¬ nI n = m := fun m hm e => nI_pos h (by rw [e]; exact hm)
  unfold f_X10_counted
  rw [if_neg (q _ (by decide)), if_neg (q _ (by decide)), if_neg (q _ (by decide))]
theorem by8 : ∀ n, n < 256 → (((Int8.ofNat n).toInt32).toInt8.toInt32 &&& 255) = nI n := by decide +kernel
theorem by_eq (y : Int64) : ∃ k : Nat, k ≤ 255 ∧ (y &&& 255).toInt32 = nI k ∧ (vp_nar .byte (y.toInt32.toInt8.toInt32)) &&& 255 = nI k := by
  have hy : y = lN y.toBitVec.toNat := Int64.toBitVec_inj.mp (by show _ = BitVec.ofNat 64 _; simp)
  have hl : y.toBitVec.toNat < 2 ^ 64 := y.toBitVec.isLt
  generalize y.toBitVec.toNat = n at hy hl
  subst hy
  have tn : ∀ j, j < 2 ^ 64 → (lN j).toBitVec.toNat = j := fun j hj => by
    show (BitVec.ofNat 64 j).toNat = j
    rw [BitVec.toNat_ofNat]; exact Nat.mod_eq_of_lt hj
  have hm : n % 256 < 256 := Nat.mod_lt _ (by decide)
  have e1 : lN n &&& 255 = lN (n % 256) := by
    apply Int64.toBitVec_inj.mp
    apply BitVec.eq_of_toNat_eq
    rw [Int64.toBitVec_and, BitVec.toNat_and, tn n hl, tn (n % 256) (by omega)]
    exact Nat.and_two_pow_sub_one_eq_mod n 8
  have e2 : (nI n).toInt8 = Int8.ofNat (n % 256) := by
    apply Int8.toBitVec_inj.mp
    apply BitVec.eq_of_toNat_eq
    show ((BitVec.ofNat 32 n).signExtend 8).toNat = (BitVec.ofNat 8 (n % 256)).toNat
    rw [BitVec.signExtend_eq_setWidth_of_le _ (by decide)]
    simp only [BitVec.toNat_setWidth, BitVec.toNat_ofNat]
    omega
  refine ⟨n % 256, by omega, by rw [e1, lN_i], ?_⟩
  rw [vp_nar_byte, lN_i, e2]
  exact by8 (n % 256) hm
theorem pm1 (d : Nat) : nI (d + 1) - 1 + (-1) = nI d - 1 := by rw [nI_pred]; exact (Int32.sub_eq_add_neg _ _).symm
theorem ty_L (x1 : Int64) {mr : Nat → Int32} : ∀ d fu fu' n tby mt, n + d ≤ 300 → d ≤ 8 → d < fu → d < fu' → (∀ j, j < n → tby j &&& 255 = mt j ∧ inN (mt j) 0 255) → ∃ tby' mt', f_X9_add_L35 fu (nI n) tby x1 (nI d - 1) = some (nI (n + d), nI (n + d), tby') ∧ f_X11_type_L43 fu' mt (nI n) mr x1 (nI d - 1) = some (nI (n + d), mt', nI (n + d), mr) ∧ (∀ j, j < n + d → tby' j &&& 255 = mt' j ∧ inN (mt' j) 0 255) := by
  intro d
  induction d with
  | zero =>
    intro fu fu' n tby mt hn _ hf hf' hi
    obtain ⟨fu, rfl⟩ : ∃ m, fu = m + 1 := ⟨fu - 1, by omega⟩
    obtain ⟨fu', rfl⟩ : ∃ m, fu' = m + 1 := ⟨fu' - 1, by omega⟩
    exact ⟨tby, mt, by rw [f_X9_add_L35, if_pos (by decide)]; rfl, by rw [f_X11_type_L43, if_pos (by decide)]; rfl, hi⟩
  | succ d ih =>
    intro fu fu' n tby mt hn h8 hf hf' hi
    obtain ⟨fu, rfl⟩ : ∃ m, fu = m + 1 := ⟨fu - 1, by omega⟩
    obtain ⟨fu', rfl⟩ : ∃ m, fu' = m + 1 := ⟨fu' - 1, by omega⟩
    rw [f_X9_add_L35, f_X11_type_L43, pm1]
    have h0 : ¬ nI (d + 1) - 1 < 0 := by rw [nI_pred]; exact nI_pos (by omega)
    rw [if_neg h0, if_neg h0, if_neg (gi (k := n) (N := 300) (by omega) (by decide)), nI_clamp (by omega)]
    generalize hy : x1 >>> (((8 : Int32) * (nI (d + 1) - 1)).toInt64 &&& (63 : Int64)) = y
    unfold f_X9_append
    rw [if_neg (nI_pos (by omega)), if_neg (nge (by omega) (by decide)), if_neg (gi (k := n) (N := 300) (by omega) (by decide)), nI_clamp (by omega)]
    simp only [Option.bind_some, nI_1]
    obtain ⟨b, hb, b1, b2⟩ := by_eq y
    have := ih fu fu' (n + 1) (upd tby n (vp_nar .byte (y.toInt32.toInt8.toInt32))) (upd mt n ((y &&& 255).toInt32)) (by omega) (by omega) (by omega) (by omega) (fun j hj => by
      by_cases q : j = n
      · subst q
        rw [upd_s, upd_s, b1, b2]
        exact ⟨rfl, b, rfl, by omega, hb⟩
      · rw [upd_n q, upd_n q]
        exact hi j (by omega))
    rw [show n + 1 + d = n + (d + 1) from by omega] at this
    exact this
theorem mhas {mw mr : Nat → Int32} {c : Nat} (hc : c < 5) (x2 : Int32) : f_X11_has mw mr (nI c) x2 = if x2 = -1 then some (mw (110 + c), upd mw (110 + c) x2, mr) else if nI (kLo c) ≤ x2 ∧ x2 ≤ nI (kHi c) then some (mw (110 + c), upd mw (110 + c) x2, mr) else f_X11_has_B68 mw mr := by
  have key : ∀ lo hi : Int32, f_X11_has_B36 mw mr (nI c) x2 lo hi = if x2 = -1 then some (mw (110 + c), upd mw (110 + c) x2, mr) else if lo ≤ x2 ∧ x2 ≤ hi then some (mw (110 + c), upd mw (110 + c) x2, mr) else f_X11_has_B68 mw mr := by
    intro lo hi
    unfold f_X11_has_B36 f_X11_has_B73
    have e : (110 : Int32) + nI c = nI (110 + c) := nI_add 110 c
    have g : (0 : Int32) ≤ nI c ∧ nI c ≤ 4 := ⟨nI_pos' (by omega), nI_le (a := c) (b := 4) (by omega) (by decide)⟩
    simp (disch := omega) only [in32 (la := 0) (lb := 4) 0 4 (by decide) (by decide), in32 (x := x2) lo hi rfl rfl, Option.bind_some, i01, g, and_self, not_true, if_false, e, gg, gg', nI_clamp, ite_not]
  unfold f_X11_has f_X11_has_B10 f_X11_has_B15
  simp only [key]
  match c, hc with
  | 0, _ => rfl
  | 1, _ => rfl
  | 2, _ => rfl
  | 3, _ => rfl
  | 4, _ => rfl
theorem h_has {v : HallV} {w : Nat → Int32} {nm : Nat → Int64} (h : HRel v w nm 0 0) {c : Nat} (hc : c < 5) (x : Int32) (hx : x = -1 ∨ inN x (kLo c) (kHi c)) : (v.2.1 4 c).toInt32 = w (110 + c) ∧ HRel (hsC v 4 (vp_updL (v.2.1 4) c x.toInt64)) (upd w (110 + c) x) nm 0 0 := by
  obtain ⟨M, T, K, ⟨hM, hT, hK⟩, ⟨a1, a2⟩, ⟨b1, b2⟩, ⟨c1, c2⟩, hrows, hp, ht, hq, hs, hk, hd, hd2⟩ := id h
  simp only [Nat.zero_add] at *
  refine ⟨by rw [(hk c hc).1, i64_i32], M, T, K, ⟨hM, hT, hK⟩, ⟨a1, ?_⟩, ⟨b1, ?_⟩, ⟨c1, ?_⟩, hrows, ?_, ?_, ?_, ?_, ?_, ?_, ?_⟩
  · simp (disch := omega) only [upd_n, a2]
  · simp (disch := omega) only [Nat.zero_add, upd_n, b2]
  · simp (disch := omega) only [Nat.zero_add, upd_n, c2]
  · intro p hpM
    have := hp p hpM
    unfold PRel at this ⊢
    simp only [Nat.zero_add] at *
    simp (disch := omega) only [hsC_ne, upd_n]
    exact this
  · intro t htT
    have := ht t htT
    unfold TRel at this ⊢
    simp only [Nat.zero_add] at *
    simp (disch := omega) only [hsC_ne, upd_n]
    exact this
  · intro q hqK
    have := hq q hqK
    unfold QRel at this ⊢
    simp only [Nat.zero_add] at *
    simp (disch := omega) only [hsC_ne, upd_n]
    exact this
  · intro d hd5
    simp (disch := omega) only [Nat.zero_add, hsC_ne, upd_n]
    exact hs d hd5
  · intro d hd8
    by_cases e : d = c
    · subst e
      simp only [Nat.zero_add, hsC_at, updL_s, upd_s]
      exact ⟨trivial, hx⟩
    · simp (disch := omega) only [Nat.zero_add, hsC_at, updL_n, upd_n]
      exact hk d hd8
  · simp (disch := omega) only [Nat.zero_add, hsC_d, upd_n]
    exact hd
  · simp (disch := omega) only [Nat.zero_add, upd_n]
    exact hd2
theorem r_digest {keptImages : Int32} {fab : Int64} {fbe : Int64} {bads : Int32} {noes : Int32} {fulls : Int32} {now : HallV} {bl : Int32} {kp : Int32} {ring : Nat → HallV} {imgs : Nat → HallV} {tlen : Int32} {tby : Nat → Int32} {draft : HallV} {rall : Nat → Int32} {nmost : Nat → Int32} {mw : Nat → Int32} {mnames : Nat → Int64} {mkept : Nat → Int32} {mtext : Nat → Int32} {mtexted : Int32} {mundo : Int32} {mabove : Int64} {mbelow : Int64} {mrefused : Nat → Int32} {mh : Int64} (hR : Rel now bl kp ring imgs tlen tby draft rall nmost keptImages fab fbe bads noes fulls mw mnames mkept mtext mtexted mundo mabove mbelow mrefused)  : ∃ (q : Int64) (q' : Int64 × Int64), f_X10_digest fab fbe now kp tlen = some q ∧ f_X11_digest mw mnames mtexted mundo mabove mbelow mh = some q' ∧ q = q'.1 ∧ Rel now bl kp ring imgs tlen tby draft rall nmost keptImages fab fbe bads noes fulls mw mnames mkept mtext mtexted mundo mabove mbelow mrefused := by
  obtain ⟨M, T, K, ⟨hM, hT, hK⟩, ⟨a1, a2⟩, ⟨b1, b2⟩, ⟨c1, c2⟩, ⟨r3, r4⟩, hp, ht, hq, hs, hk, hd, hd2⟩ := id hR.1
  obtain ⟨rfl, rfl⟩ := id hR.2.2.2.2.2.2.2.1
  obtain ⟨B, K2, hB, hK2, e1, e2, e3, hr⟩ := id hR.2.1
  obtain ⟨n2, hn2, t1, t2, ht3⟩ := id hR.2.2.2.1
  obtain ⟨h', d1, d2⟩ := dg1 (fab := fab) (fbe := fbe) hR.1 (t1.trans t2.symm) (e2.trans e3.symm) 6 FU FU 0 701 (by omega) (FU1 (by omega)) (FU1 (by omega))
  have d1 : f_X10_digest fab fbe now kp tlen = _ := d1
  have d2 : f_X11_digest mw mnames mtexted mundo fab fbe mh = _ := d2
  have m1 : f_X1_mixedInto now h' = some (mx (now.2.1 4) 5 (mx (now.2.1 3) 8 (mx (now.2.1 2) (K * 2) (mx (now.2.1 1) (T * 3) (mx (now.2.1 0) (M * 7) h'))))) := by
    unfold f_X1_mixedInto
    simp only [mx8 (wd := 7) (rows := now.1 0) (M * 7) (N := 84) (by rw [a1]; exact nI_mul M 7) (by omega) (by decide), mx8 (wd := 3) (rows := now.1 1) (T * 3) (N := 15) (by rw [b1]; exact nI_mul T 3) (by omega) (by decide), mx8 (wd := 2) (rows := now.1 2) (K * 2) (N := 12) (by rw [c1]; exact nI_mul K 2) (by omega) (by decide), mx8 (wd := 8) (rows := now.1 3) 8 (N := 8) (by rw [r3]; rfl) (by omega) (by decide), mx8 (wd := 5) (rows := now.1 4) 5 (N := 5) (by rw [r4]; rfl) (by omega) (by decide), Option.bind_some]
  have s1 := dgP (te := mtexted) (un := mundo) (ab := fab) (be := fbe) hM a2 hp h' M FU 0 (by omega) (FU1 (by omega))
  have s2 := dgT (nm := mnames) (te := mtexted) (un := mundo) (ab := fab) (be := fbe) hT b2 ht (mx (now.2.1 0) (M * 7) h') T FU 0 (by omega) (FU1 (by omega))
  have s3 := dgQ (nm := mnames) (te := mtexted) (un := mundo) (ab := fab) (be := fbe) hK c2 hq (fun c hc => by have := (hs c hc).1; rwa [Nat.zero_add] at this) (fun c hc => by have := (hk c hc).1; rwa [Nat.zero_add] at this) (mx (now.2.1 1) (T * 3) (mx (now.2.1 0) (M * 7) h')) K FU 0 (by omega) (FU1 (by omega))
  have s1 : f_X11_digest_L33 mw mnames mtexted mundo fab fbe FU h' (0 : Int32) = _ := s1
  have s2 : f_X11_digest_L144 mw mnames mtexted mundo fab fbe FU (mx (now.2.1 0) (M * 7) h') (0 : Int32) = _ := s2
  have s3 : f_X11_digest_L205 mw mnames mtexted mundo fab fbe FU (mx (now.2.1 1) (T * 3) (mx (now.2.1 0) (M * 7) h')) (0 : Int32) = _ := s3
  rw [m1, Option.bind_some] at d1
  exact ⟨_, _, d1, d2.trans (s1.trans (s2.trans s3)), rfl, hR⟩
theorem r_type {keptImages : Int32} {fab : Int64} {fbe : Int64} {bads : Int32} {noes : Int32} {fulls : Int32} {now : HallV} {bl : Int32} {kp : Int32} {ring : Nat → HallV} {imgs : Nat → HallV} {tlen : Int32} {tby : Nat → Int32} {draft : HallV} {rall : Nat → Int32} {nmost : Nat → Int32} {mw : Nat → Int32} {mnames : Nat → Int64} {mkept : Nat → Int32} {mtext : Nat → Int32} {mtexted : Int32} {mundo : Int32} {mabove : Int64} {mbelow : Int64} {mrefused : Nat → Int32} (hR : Rel now bl kp ring imgs tlen tby draft rall nmost keptImages fab fbe bads noes fulls mw mnames mkept mtext mtexted mundo mabove mbelow mrefused) (x1 : Int64) (x3 : Int32) : ∃ (q : Int32 × Int32 × Int32 × Int32 × Int32 × (Nat → Int32)) (q' : Int32 × (Nat → Int32) × Int32 × (Nat → Int32)), f_X10_type bads noes fulls tlen tby x1 x3 = some q ∧ f_X11_type mtext mtexted mrefused x1 x3 = some q' ∧ q.1 = q'.1 ∧ Rel now bl kp ring imgs q.2.2.2.2.1 q.2.2.2.2.2 draft rall nmost keptImages fab fbe q.2.1 q.2.2.1 q.2.2.2.1 mw mnames mkept q'.2.1 q'.2.2.1 mundo mabove mbelow q'.2.2.2 := by
  obtain ⟨n, hn, t1, t2, ht⟩ := id hR.2.2.2.1
  by_cases g : 1 ≤ x3 ∧ x3 ≤ 8
  · obtain ⟨d, rfl, _, hd8⟩ := (inN_iff (x := x3) (a := 1) (b := 8) (by decide) (by decide)).mpr g
    have l : nI n + nI d ≤ (300 : Int32) ↔ n + d ≤ 300 := by rw [nI_add]; exact nI_leI (b := 300) (by omega) (by decide)
    have l' : nI n + nI d ≤ Int32.ofNat 300 ↔ n + d ≤ 300 := l
    by_cases g2 : n + d ≤ 300
    · obtain ⟨tby', mt', k1, k2, k3⟩ := ty_L x1 (mr := mrefused) d FU FU n tby mtext g2 hd8 (FU1 (by omega)) (FU1 (by omega)) ht
      refine ⟨(nI (n + d), bads, noes, fulls, nI (n + d), tby'), (nI (n + d), mt', nI (n + d), mrefused), ?_, ?_, rfl, ?_⟩
      · unfold f_X10_type f_X9_add
        simp only [within_eq, g, t1, l', g2, k1, ctp (n := n + d) (by omega), one0, i01, Option.bind_some, not_true, if_false, not_false_eq_true, if_true, and_self]
      · unfold f_X11_type
        simp only [in32 (la := 1) (lb := 8) 1 8 (by decide) (by decide), g, t2, l, g2, k2, one0, i01, Option.bind_some, not_true, if_false, not_false_eq_true, if_true, and_self]
      · exact ⟨hR.1, hR.2.1, hR.2.2.1, ⟨n + d, g2, rfl, rfl, k3⟩, hR.2.2.2.2⟩
    · obtain ⟨b, nn, f, m, c1, c2, c3⟩ := ct hR.2.2.2.2.2.2.2.2 (-4)
      refine ⟨(-4, b, nn, f, tlen, tby), (-4, mtext, mtexted, m), ?_, ?_, rfl, hR.now hR.1 (fun _ _ => rfl) (fun _ _ => rfl) c3⟩
      · unfold f_X10_type f_X9_add
        simp only [within_eq, g, t1, l', g2, c1, one0, i01, Option.bind_some, not_true, if_false, not_false_eq_true, if_true, and_self]
      · unfold f_X11_type
        simp only [in32 (la := 1) (lb := 8) 1 8 (by decide) (by decide), g, t2, l, g2, c2, one0, i01, Option.bind_some, not_true, if_false, not_false_eq_true, if_true, and_self]
  · obtain ⟨b, nn, f, m, c1, c2, c3⟩ := ct hR.2.2.2.2.2.2.2.2 (-2)
    refine ⟨(-2, b, nn, f, tlen, tby), (-2, mtext, mtexted, m), ?_, ?_, rfl, hR.now hR.1 (fun _ _ => rfl) (fun _ _ => rfl) c3⟩
    · unfold f_X10_type f_X9_add
      simp only [within_eq, g, c1, one0, i01, Option.bind_some, not_true, if_false, not_false_eq_true, if_true, and_self]
    · unfold f_X11_type
      simp only [in32 (la := 1) (lb := 8) 1 8 (by decide) (by decide), g, c2, one0, i01, Option.bind_some, not_true, if_false, not_false_eq_true, if_true, and_self]
theorem r_has {keptImages : Int32} {fab : Int64} {fbe : Int64} {bads : Int32} {noes : Int32} {fulls : Int32} {now : HallV} {bl : Int32} {kp : Int32} {ring : Nat → HallV} {imgs : Nat → HallV} {tlen : Int32} {tby : Nat → Int32} {draft : HallV} {rall : Nat → Int32} {nmost : Nat → Int32} {mw : Nat → Int32} {mnames : Nat → Int64} {mkept : Nat → Int32} {mtext : Nat → Int32} {mtexted : Int32} {mundo : Int32} {mabove : Int64} {mbelow : Int64} {mrefused : Nat → Int32} (hR : Rel now bl kp ring imgs tlen tby draft rall nmost keptImages fab fbe bads noes fulls mw mnames mkept mtext mtexted mundo mabove mbelow mrefused) (x1 : Int32) (x2 : Int32) : ∃ (q : Int32 × Int32 × Int32 × Int32 × HallV) (q' : Int32 × (Nat → Int32) × (Nat → Int32)), f_X10_has bads noes fulls now x1 x2 = some q ∧ f_X11_has mw mrefused x1 x2 = some q' ∧ q.1 = q'.1 ∧ Rel q.2.2.2.2 bl kp ring imgs tlen tby draft rall nmost keptImages fab fbe q.2.1 q.2.2.1 q.2.2.2.1 q'.2.1 mnames mkept mtext mtexted mundo mabove mbelow q'.2.2 := by
  obtain ⟨b, n, f, m, c1, c2, c3⟩ := ct10 hR.2.2.2.2.2.2.2.2
  by_cases g : 0 ≤ x1 ∧ x1 ≤ 4
  · obtain ⟨c, rfl, _, hc4⟩ := (inN_iff (x := x1) (a := 0) (b := 4) (by decide) (by decide)).mpr g
    have hc : c < 5 := by omega
    have yes : (x2 = -1 ∨ inN x2 (kLo c) (kHi c)) → ∃ (q : Int32 × Int32 × Int32 × Int32 × HallV) (q' : Int32 × (Nat → Int32) × (Nat → Int32)), f_X10_has_B25 bads noes fulls now (nI c) x2 = some q ∧ some (mw (110 + c), upd mw (110 + c) x2, mrefused) = some q' ∧ q.1 = q'.1 ∧ Rel q.2.2.2.2 bl kp ring imgs tlen tby draft rall nmost keptImages fab fbe q.2.1 q.2.2.1 q.2.2.2.1 q'.2.1 mnames mkept mtext mtexted mundo mabove mbelow q'.2.2 := by
      intro hx
      obtain ⟨e1, e2⟩ := h_has hR.1 hc x2 hx
      refine ⟨(mw (110 + c), bads, noes, fulls, hsC now 4 (vp_updL (now.2.1 4) c x2.toInt64)), _, ?_, rfl, rfl, hR.now e2 (fun j hj => upd_n (by omega)) (fun _ _ => rfl) hR.2.2.2.2.2.2.2.2⟩
      unfold f_X10_has_B25 f_X1_hasOf
      simp only [num_at (wd := 5) (N := 5) (x := 0) (y := nI c) 0 c 5 rfl rfl rfl (by omega) (by decide), set_at (wd := 5) (N := 5) (x := 0) (y := nI c) 0 c 5 rfl rfl rfl (by omega) (by decide), Nat.zero_mul, Nat.zero_add, e1, Option.bind_some]
    have top : f_X10_has bads noes fulls now (nI c) x2 = if x2 = -1 then f_X10_has_B25 bads noes fulls now (nI c) x2 else if nI (kLo c) ≤ x2 ∧ x2 ≤ nI (kHi c) then f_X10_has_B25 bads noes fulls now (nI c) x2 else f_X10_has_B20 bads noes fulls now := by
      unfold f_X10_has f_X1_isPart
      simp only [within_eq, g, pv_eq hc, i01b, ite_not, or_true, true_or, one0, i01, Option.bind_some, not_true, if_false, not_false_eq_true, if_true, and_self]
    rw [top, mhas hc]
    by_cases q1 : x2 = -1
    · rw [if_pos q1, if_pos q1]; exact yes (Or.inl q1)
    · rw [if_neg q1, if_neg q1]
      by_cases q2 : nI (kLo c) ≤ x2 ∧ x2 ≤ nI (kHi c)
      · rw [if_pos q2, if_pos q2]
        exact yes (Or.inr ((inN_iff (by unfold kHi; split <;> (try split) <;> decide) (by unfold kHi kLo; split <;> (try split) <;> (try split) <;> omega)).mpr q2))
      · rw [if_neg q2, if_neg q2]
        refine ⟨(-10, b, n, f, now), (-10, mw, m), ?_, ?_, rfl, hR.now hR.1 (fun _ _ => rfl) (fun _ _ => rfl) c3⟩
        · unfold f_X10_has_B20
          simp only [c1, Option.bind_some]
        · unfold f_X11_has_B68
          simp only [c2, Option.bind_some]
  · refine ⟨(-10, b, n, f, now), (-10, mw, m), ?_, ?_, rfl, hR.now hR.1 (fun _ _ => rfl) (fun _ _ => rfl) c3⟩
    · unfold f_X10_has f_X1_isPart f_X10_has_B20
      simp only [within_eq, g, i01b, c1, or_true, true_or, one0, i01, Option.bind_some, not_true, if_false, not_false_eq_true, if_true, and_self]
    · unfold f_X11_has f_X11_has_B10 f_X11_has_B15 f_X11_has_B36 f_X11_has_B68
      simp only [in32 (la := 0) (lb := 4) 0 4 (by decide) (by decide), g, c2, ite_self, one0, i01, Option.bind_some, not_true, if_false, not_false_eq_true, if_true, and_self]
