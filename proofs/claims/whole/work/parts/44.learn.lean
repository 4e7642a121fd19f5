/-! PURE 22: a night of learning -/
def candN (g : Nat → Nat) (l : Nat) (K : Nat → Nat) (m k : Nat) : Nat := if k * l ≤ m then K k + g (m - k * l) else 0
def mxN (g : Nat → Nat) (l : Nat) (K : Nat → Nat) (m : Nat) : Nat → Nat
  | 0 => 0
  | n + 1 => if candN g l K m n ≤ mxN g l K m n then mxN g l K m n else candN g l K m n
def dN (W : Nat) (L : Nat → Nat) (K : Nat → Nat → Nat) : Nat → Nat → Nat
  | 0, _ => 0
  | d + 1, m => if W.testBit (11 - d) = true then mxN (dN W L K d) (L (11 - d)) (K (11 - d)) m 6 else dN W L K d m
theorem mxN_att (g : Nat → Nat) (l : Nat) (K : Nat → Nat) (m : Nat) : ∀ n, ∃ k, k ≤ n ∧ k * l ≤ m ∧ candN g l K m k = mxN g l K m (n + 1) := by
  intro n
  induction n with
  | zero =>
    refine ⟨0, Nat.le_refl _, by omega, ?_⟩
    rw [mxN, mxN]
    by_cases h : candN g l K m 0 ≤ 0
    · rw [if_pos h]; omega
    · rw [if_neg h]
  | succ n ih =>
    obtain ⟨k, h1, h2, h3⟩ := ih
    rw [mxN]
    by_cases h : candN g l K m (n + 1) ≤ mxN g l K m (n + 1)
    · rw [if_pos h]
      exact ⟨k, by omega, h2, h3⟩
    · rw [if_neg h]
      refine ⟨n + 1, Nat.le_refl _, ?_, rfl⟩
      by_cases q : (n + 1) * l ≤ m
      · exact q
      · exact absurd (by unfold candN; rw [if_neg q]; exact Nat.zero_le _) h
theorem mxN_le {g : Nat → Nat} {l : Nat} {K : Nat → Nat} {m B : Nat} (hg : ∀ j, g j ≤ B) : ∀ n, (∀ k, k < n → K k ≤ 20) → mxN g l K m n ≤ B + 20 := by
  intro n
  induction n with
  | zero => intro _; exact Nat.zero_le _
  | succ n ih =>
    intro h
    rw [mxN]
    split
    · exact ih (fun k hk => h k (by omega))
    · unfold candN
      split
      · have := h n (by omega)
        have := hg (m - n * l)
        omega
      · omega
theorem candN_le {g : Nat → Nat} {l : Nat} {K : Nat → Nat} {m k B : Nat} (hg : ∀ j, g j ≤ B) (hk : K k ≤ 20) : candN g l K m k ≤ B + 20 := by
  unfold candN
  split
  · have := hg (m - k * l); omega
  · omega
theorem dN_le {W : Nat} {L : Nat → Nat} {K : Nat → Nat → Nat} (hK : ∀ p, W.testBit p = true → ∀ k, k ≤ 5 → K p k ≤ 20) : ∀ d m, dN W L K d m ≤ 20 * d := by
  intro d
  induction d with
  | zero => intro m; exact Nat.zero_le _
  | succ d ih =>
    intro m
    rw [dN]
    split
    · rename_i hb
      have := mxN_le (l := L (11 - d)) (K := K (11 - d)) (m := m) ih 6 (fun k hk => hK _ hb k (by omega))
      omega
    · have := ih m; omega
theorem set_eq {arr : Nat → Int32} {N k : Nat} {x v : Int32} (hx : x = nI k) (hk : k < N) (hN : N < 2 ^ 31) : f_X10_set arr N x v = some (upd arr k v) := by
  unfold f_X10_set
  rw [hx, if_neg (nI_pos (by omega)), if_neg (nge hk hN), if_neg (gi hk hN), nI_clamp (by omega)]
theorem at_some (arr : Nat → Int32) (x : Int32) : ∃ r, f_X10_at arr 1300 x = some r := by
  unfold f_X10_at
  by_cases h1 : x < 0
  · exact ⟨_, if_pos h1⟩
  · obtain ⟨j, hj, rfl⟩ := nI_of h1
    rw [if_neg h1]
    by_cases h2 : Int32.ofNat 1300 ≤ nI j
    · exact ⟨_, if_pos h2⟩
    · rw [if_neg h2]
      have h3 : j < 1300 := by
        by_cases q : j < 1300
        · exact q
        · exact absurd (show nI 1300 ≤ nI j from nI_le (by omega) hj) h2
      exact ⟨_, if_neg (gi h3 (by decide))⟩
theorem mf_eq {a : Nat → Int32} {x y : Int32} {p m : Nat} (hx : x = nI p) (hy : y = nI m) (h : p * 100 + m < 1300) : f_X3_mostFrom a x y = some (a (p * 100 + m)) := by
  unfold f_X3_mostFrom
  rw [at_eq (k := p * 100 + m) (ix (wd := 100) (w := 100) hx hy rfl) h (by decide)] <;> rfl
theorem mf_some (a : Nat → Int32) (x y : Int32) : ∃ r, f_X3_mostFrom a x y = some r := by
  unfold f_X3_mostFrom
  obtain ⟨r, h⟩ := at_some a ((x * (100 : Int32)) + y)
  exact ⟨r, by rw [h]; rfl⟩
theorem sm_eq {a : Nat → Int32} {x y v : Int32} {p m : Nat} (hx : x = nI p) (hy : y = nI m) (h : p * 100 + m < 1300) : f_X3_setMost a x y v = some (upd a (p * 100 + m) v) := by
  unfold f_X3_setMost
  rw [set_eq (k := p * 100 + m) (ix (wd := 100) (w := 100) hx hy rfl) h (by decide)] <;> rfl
theorem sub_lt0 {a b : Nat} (ha : a < 2 ^ 30) (hb : b < 2 ^ 30) : nI a - nI b < 0 ↔ a < b := by
  have ht : (nI a - nI b).toInt = (a : Int) - b := by
    rw [Int32.toInt_sub, nI_toInt (by omega), nI_toInt (by omega)]
    exact Int.bmod_eq_of_le (by omega) (by omega)
  rw [Int32.lt_iff_toInt_lt, ht, Int32.toInt_zero]; omega
abbrev rowI (a : Nat → Int32) (p N : Nat) (g : Nat → Nat) : Prop := ∀ m, m ≤ N → a (p * 100 + m) = nI (g m)
abbrev offR (a b : Nat → Int32) (p : Nat) : Prop := ∀ j, (j < p * 100 ∨ p * 100 + 100 ≤ j) → b j = a j
abbrev Nite (v : HallV) (w : Nat → Int32) (nm : Nat → Int64) (M W : Nat) (L : Nat → Nat) (K : Nat → Nat → Nat) : Prop :=
  (M ≤ 12) ∧ (W < 2 ^ M) ∧
  (∀ p, p < M → f_X1_partOf v (nI p) (1 : Int32) = some (nI (L p))) ∧
  (∀ p, p < M → f_X11_lettersOf (nm p) = some (nI (L p))) ∧
  (∀ p, p < M → 1 ≤ L p ∧ L p ≤ 7) ∧
  (∀ p, p < M → ∀ k, k ≤ 5 → K p k ≤ 20) ∧
  (∀ p, p < M → ∀ k, k ≤ 5 → f_X3_leftOf v (nI p) (nI k) = some (nI (K p k))) ∧
  (∀ p, p < M → ∀ k, k ≤ 5 → f_X11_keeps w (nI p) (nI k) = some (nI (K p k)))
theorem HRel.nite {v : HallV} {w : Nat → Int32} {nm : Nat → Int64} (h : HRel v w nm 0 0) : ∃ (M : Nat) (L : Nat → Nat) (K : Nat → Nat → Nat), M ≤ 12 ∧ v.1 0 = nI M ∧ w 0 = nI M ∧ ∀ W, W < 2 ^ M → Nite v w nm M W L K := by
  obtain ⟨M, T, Q, ⟨hM, hT, hK⟩, ⟨a1, a2⟩, ⟨b1, b2⟩, ⟨c1, c2⟩, hrows, hp, ht, hq, hs, hk, hd, hd2⟩ := id h
  have hl : ∀ p, p < M → ∃ L, 1 ≤ L ∧ L ≤ 7 ∧ f_X1_partOf v (nI p) (1 : Int32) = some (nI L) ∧ f_X11_lettersOf (nm p) = some (nI L) := fun p hpM => by
    have h1 := hp p hpM
    unfold PRel at h1
    simp only [Nat.zero_add] at h1
    obtain ⟨q0, qn, -⟩ := h1
    obtain ⟨n, L, hx, hL1, hL7, _, _, l1, l2, l3, l4, l5⟩ := nm_facts qn
    have g0 : f_X8_get (7 : Int32) 84 (v.2.1 0) (nI p) (0 : Int32) = some (nm p) := by rw [get_at (wd := 7) (N := 84) (x := nI p) (y := 0) p 0 7 rfl rfl rfl (by omega) (by decide), q0]
    have e1 : f_X1_partOf v (nI p) (nI 1) = Option.bind (f_X2_lettersOf (nm p)) some := by
      show Option.bind (f_X8_get (7 : Int32) 84 (v.2.1 0) (nI p) (0 : Int32)) _ = _
      rw [g0, Option.bind_some]
    refine ⟨L, hL1, hL7, ?_, l2⟩
    have e1 : f_X1_partOf v (nI p) (1 : Int32) = _ := e1
    rw [e1, l1] <;> rfl
  have hkk : ∀ p, p < M → ∀ k, k ≤ 5 → ∃ r : Nat, r ≤ 20 ∧ f_X3_leftOf v (nI p) (nI k) = some (nI r) ∧ f_X11_keeps w (nI p) (nI k) = some (nI r) := fun p hpM k hk5 => keeps_eq h a1 hM hpM hk5
  have hL : ∀ p, p < M → ∃ L, ((f_X11_lettersOf (nm p)).getD 0).toNatClampNeg = L ∧ 1 ≤ L ∧ L ≤ 7 ∧ f_X1_partOf v (nI p) (1 : Int32) = some (nI L) ∧ f_X11_lettersOf (nm p) = some (nI L) := fun p hpM => by
    obtain ⟨L, h1, h2, h3, h4⟩ := hl p hpM
    refine ⟨L, ?_, h1, h2, h3, h4⟩
    rw [h4, Option.getD_some, nI_clamp (by omega)]
  have hK : ∀ p, p < M → ∀ k, k ≤ 5 → ∃ r : Nat, ((f_X11_keeps w (nI p) (nI k)).getD 0).toNatClampNeg = r ∧ r ≤ 20 ∧ f_X3_leftOf v (nI p) (nI k) = some (nI r) ∧ f_X11_keeps w (nI p) (nI k) = some (nI r) := fun p hpM k hk5 => by
    obtain ⟨r, h1, h2, h3⟩ := hkk p hpM k hk5
    refine ⟨r, ?_, h1, h2, h3⟩
    rw [h3, Option.getD_some, nI_clamp (by omega)]
  refine ⟨M, fun p => ((f_X11_lettersOf (nm p)).getD 0).toNatClampNeg, fun p k => ((f_X11_keeps w (nI p) (nI k)).getD 0).toNatClampNeg, hM, a1, a2, fun W hW => ⟨hM, hW, ?_, ?_, ?_, ?_, ?_, ?_⟩⟩
  · intro p hpM
    obtain ⟨L, e, h1, h2, h3, h4⟩ := hL p hpM
    show _ = some (nI ((f_X11_lettersOf (nm p)).getD 0).toNatClampNeg)
    rw [e]; exact h3
  · intro p hpM
    obtain ⟨L, e, h1, h2, h3, h4⟩ := hL p hpM
    show _ = some (nI ((f_X11_lettersOf (nm p)).getD 0).toNatClampNeg)
    rw [e]; exact h4
  · intro p hpM
    obtain ⟨L, e, h1, h2, h3, h4⟩ := hL p hpM
    show 1 ≤ ((f_X11_lettersOf (nm p)).getD 0).toNatClampNeg ∧ ((f_X11_lettersOf (nm p)).getD 0).toNatClampNeg ≤ 7
    rw [e]; exact ⟨h1, h2⟩
  · intro p hpM k hk5
    obtain ⟨r, e, h1, h2, h3⟩ := hK p hpM k hk5
    show ((f_X11_keeps w (nI p) (nI k)).getD 0).toNatClampNeg ≤ 20
    rw [e]; exact h1
  · intro p hpM k hk5
    obtain ⟨r, e, h1, h2, h3⟩ := hK p hpM k hk5
    show _ = some (nI ((f_X11_keeps w (nI p) (nI k)).getD 0).toNatClampNeg)
    rw [e]; exact h2
  · intro p hpM k hk5
    obtain ⟨r, e, h1, h2, h3⟩ := hK p hpM k hk5
    show _ = some (nI ((f_X11_keeps w (nI p) (nI k)).getD 0).toNatClampNeg)
    rw [e]; exact h3
/-- the plan -/
theorem sayL {v : HallV} {p N c kp : Nat} {g f : Nat → Nat} (hp : p < 12) (hN : N ≤ 99) (hg : ∀ j, g j ≤ 1000) (hf : ∀ j, f j ≤ 1000) (hkp : kp ≤ 20) (hc : c ≤ 100) : ∀ d fu m (a : Nat → Int32), N + 1 - m = d → d < fu → c ≤ m → m ≤ 200 → rowI a (p + 1) N g → (∀ j, j ≤ N → a (p * 100 + j) = nI (if j < m ∧ c ≤ j then (if kp + g (j - c) ≤ f j then f j else kp + g (j - c)) else f j)) → ∃ a', f_X3_sayTimes_L22 v fu a (nI p) (nI N) (nI kp) (nI c) (nI m) = some a' ∧ offR a a' p ∧ ∀ j, j ≤ N → a' (p * 100 + j) = nI (if c ≤ j then (if kp + g (j - c) ≤ f j then f j else kp + g (j - c)) else f j) := by
  intro d
  induction d with
  | zero =>
    intro fu m a hd hfu hcm hm hr ha
    obtain ⟨fu, rfl⟩ : ∃ m, fu = m + 1 := ⟨fu - 1, by omega⟩
    refine ⟨a, ?_, fun _ _ => rfl, fun j hj => ?_⟩
    · rw [f_X3_sayTimes_L22, if_pos (nI_lt (by omega) (by omega))]
    · rw [ha j hj]
      have e : (j < m ∧ c ≤ j) = (c ≤ j) := propext ⟨fun h => h.2, fun h => ⟨by omega, h⟩⟩
      simp only [e]
  | succ d ih =>
    intro fu m a hd hfu hcm hm hr ha
    obtain ⟨fu, rfl⟩ : ∃ m, fu = m + 1 := ⟨fu - 1, by omega⟩
    have hmN : m ≤ N := by omega
    have n1 : ¬ nI N < nI m := fun z => by have := (nI_ltI (by omega) (by omega)).mp z; omega
    have e1 : f_X3_mostFrom a (nI p + (1 : Int32)) (nI m - nI c) = some (nI (g (m - c))) := by
      rw [mf_eq (p := p + 1) (m := m - c) (nI_1 p) (nI_sub hcm) (by omega), hr (m - c) (by omega)]
    have e2 : f_X3_mostFrom a (nI p) (nI m) = some (nI (f m)) := by
      rw [mf_eq (p := p) (m := m) rfl rfl (by omega), ha m hmN, if_neg (by omega)]
    have hg1 := hg (m - c)
    have hf1 := hf m
    rw [f_X3_sayTimes_L22, if_neg n1, e1, Option.bind_some, e2, Option.bind_some, nI_add]
    unfold f_X3_sayTimes_B67
    rw [nI_1]
    by_cases q : kp + g (m - c) ≤ f m
    · rw [if_pos (nI_le q (by omega))]
      refine ih fu (m + 1) a (by omega) (by omega) (by omega) (by omega) hr (fun j hj => ?_)
      rw [ha j hj]
      by_cases z : j = m
      · subst z
        rw [if_neg (by omega), if_pos ⟨by omega, hcm⟩, if_pos q]
      · have e : (j < m ∧ c ≤ j) = (j < m + 1 ∧ c ≤ j) := propext ⟨fun h => ⟨by omega, h.2⟩, fun h => ⟨by omega, h.2⟩⟩
        simp only [e]
    · rw [if_neg (fun z => q ((nI_leI (by omega) (by omega)).mp z)), sm_eq (p := p) (m := m) rfl rfl (by omega), Option.bind_some]
      obtain ⟨a', h1, h2, h3⟩ := ih fu (m + 1) (upd a (p * 100 + m) (nI (kp + g (m - c)))) (by omega) (by omega) (by omega) (by omega) (fun j hj => by rw [upd_n (by omega)]; exact hr j hj) (fun j hj => by
        by_cases z : j = m
        · subst z
          rw [upd_s, if_pos ⟨by omega, hcm⟩, if_neg q]
        · rw [upd_n (by omega), ha j hj]
          have e : (j < m ∧ c ≤ j) = (j < m + 1 ∧ c ≤ j) := propext ⟨fun h => ⟨by omega, h.2⟩, fun h => ⟨by omega, h.2⟩⟩
          simp only [e])
      refine ⟨a', h1, fun j hj => ?_, h3⟩
      rw [h2 j hj, upd_n (by omega)]
theorem say_eq {v : HallV} {w : Nat → Int32} {nm : Nat → Int64} {M W : Nat} {L : Nat → Nat} {K : Nat → Nat → Nat} (Z : Nite v w nm M W L K) {p N k : Nat} {g : Nat → Nat} (hp : p < M) (hN : N ≤ 99) (hg : ∀ j, g j ≤ 240) (hk : k ≤ 5) {a : Nat → Int32} (hr : rowI a (p + 1) N g) (ha : rowI a p N (fun j => mxN g (L p) (K p) j k)) : ∃ a', f_X3_sayTimes v a (nI p) (nI k) (nI N) = some a' ∧ offR a a' p ∧ rowI a' p N (fun j => mxN g (L p) (K p) j (k + 1)) := by
  obtain ⟨zM, zW, zl, zl', zb, zk, zc, zm⟩ := Z
  have hb := zb p hp
  have hk5 := zk p hp k hk
  have hcost : k * L p ≤ 5 * 7 := Nat.mul_le_mul hk hb.2
  have hmx : ∀ j, mxN g (L p) (K p) j k ≤ 1000 := fun j => by
    have := mxN_le (l := L p) (K := K p) (m := j) hg k (fun i hi => zk p hp i (by omega))
    omega
  obtain ⟨a', h1, h2, h3⟩ := sayL (v := v) (p := p) (N := N) (c := k * L p) (kp := K p k) (g := g) (f := fun j => mxN g (L p) (K p) j k) (by omega) hN (fun j => by have := hg j; omega) hmx hk5 (by omega) (N + 1 - k * L p) FU (k * L p) a rfl (FU1 (by omega)) (Nat.le_refl _) (by omega) hr (fun j hj => by rw [if_neg (by omega)]; exact ha j hj)
  refine ⟨a', ?_, h2, fun j hj => ?_⟩
  · unfold f_X3_sayTimes
    rw [zc p hp k hk, Option.bind_some, zl p hp, Option.bind_some, nI_mul]
    exact h1
  · rw [h3 j hj]
    show _ = nI (mxN g (L p) (K p) j (k + 1))
    rw [mxN]
    unfold candN
    by_cases q : k * L p ≤ j
    · rw [if_pos q, if_pos q]
    · rw [if_neg q, if_neg q, if_pos (Nat.zero_le _)]
theorem plan63 {v : HallV} {w : Nat → Int32} {nm : Nat → Int64} {M W : Nat} {L : Nat → Nat} {K : Nat → Nat → Nat} (Z : Nite v w nm M W L K) {p N : Nat} {g : Nat → Nat} {nl : Int32} {rL9 : (Nat → Int32) → Int32 → Int32 → Int32 → Int32 → Option ((Nat → Int32) × Int32)} (hb : W.testBit p = true) (hN : N ≤ 99) (hg : ∀ j, g j ≤ 240) : ∀ d fu k (a : Nat → Int32), d + k = 6 → d < fu → rowI a (p + 1) N g → rowI a p N (fun j => mxN g (L p) (K p) j k) → ∃ a', f_X3_plan_L63 v rL9 fu a nl (nI W) (nI N) (nI p) (nI k) = rL9 a' nl (nI W) (nI N) (nI p + (-1 : Int32)) ∧ offR a a' p ∧ rowI a' p N (fun j => mxN g (L p) (K p) j 6) := by
  have hp : p < M := tbM Z.2.1 hb
  have hM := Z.1
  have hW : W < 2 ^ 31 := p12 Z.1 Z.2.1
  intro d
  induction d with
  | zero =>
    intro fu k a hd hfu hr ha
    obtain ⟨fu, rfl⟩ : ∃ m, fu = m + 1 := ⟨fu - 1, by omega⟩
    have e : k = 6 := by omega
    subst e
    refine ⟨a, ?_, fun _ _ => rfl, ha⟩
    rw [f_X3_plan_L63, if_pos (by decide)] <;> rfl
  | succ d ih =>
    intro fu k a hd hfu hr ha
    obtain ⟨fu, rfl⟩ : ∃ m, fu = m + 1 := ⟨fu - 1, by omega⟩
    have n1 : ¬ (5 : Int32) < nI k := fun z => by have := (nI_ltI (a := 5) (by omega) (by omega)).mp z; omega
    obtain ⟨a1, h1, h2, h3⟩ := say_eq Z (k := k) hp hN hg (by omega) hr ha
    obtain ⟨a2, g1, g2, g3⟩ := ih fu (k + 1) a1 (by omega) (by omega) (fun j hj => by rw [h2 _ (by omega)]; exact hr j hj) h3
    refine ⟨a2, ?_, fun j hj => by rw [g2 j hj, h2 j hj], g3⟩
    rw [f_X3_plan_L63, if_neg n1, (isIn_eq (a := W) (p := p) hW (by omega)).1, Option.bind_some, if_pos hb, if_neg (by decide), h1, Option.bind_some, nI_1]
    exact g1
theorem plan17 {v : HallV} {w : Nat → Int32} {nm : Nat → Int64} {M W : Nat} {L : Nat → Nat} {K : Nat → Nat → Nat} (Z : Nite v w nm M W L K) {p N : Nat} {g : Nat → Nat} {nl : Int32} {rL9 : (Nat → Int32) → Int32 → Int32 → Int32 → Int32 → Option ((Nat → Int32) × Int32)} (hp : p < 12) (hN : N ≤ 99) (hg : ∀ j, g j ≤ 240) : ∀ d fu m (a : Nat → Int32), d + m = N + 1 → d < fu → rowI a (p + 1) N g → (∀ j, j < m → a (p * 100 + j) = nI (if W.testBit p = true then 0 else g j)) → ∃ a', f_X3_plan_L17 v rL9 fu a nl (nI W) (nI N) (nI p) (nI m) = rL9 a' nl (nI W) (nI N) (nI p + (-1 : Int32)) ∧ offR a a' p ∧ rowI a' p N (fun j => if W.testBit p = true then mxN g (L p) (K p) j 6 else g j) := by
  have hW : W < 2 ^ 31 := p12 Z.1 Z.2.1
  intro d
  induction d with
  | zero =>
    intro fu m a hd hfu hr ha
    obtain ⟨fu, rfl⟩ : ∃ m, fu = m + 1 := ⟨fu - 1, by omega⟩
    rw [f_X3_plan_L17, if_pos (nI_lt (by omega) (by omega))]
    by_cases hb : W.testBit p = true
    · simp only [hb, if_true] at ha ⊢
      exact plan63 Z hb hN hg 6 FU 0 a (by omega) (FU1 (by omega)) hr (fun j hj => ha j (by omega))
    · simp only [hb, if_false] at ha ⊢
      refine ⟨a, ?_, fun _ _ => rfl, fun j hj => ha j (by omega)⟩
      have e : ∀ y, 0 < y → f_X3_plan_L63 v rL9 y a nl (nI W) (nI N) (nI p) (0 : Int32) = rL9 a nl (nI W) (nI N) (nI p + (-1 : Int32)) := by
        intro y hy
        obtain ⟨y, rfl⟩ : ∃ m, y = m + 1 := ⟨y - 1, by omega⟩
        rw [f_X3_plan_L63, if_neg (by decide), (isIn_eq (a := W) (p := p) hW (by omega)).1, Option.bind_some, if_neg hb, if_pos rfl] <;> rfl
      exact e FU (FU1 (by omega))
  | succ d ih =>
    intro fu m a hd hfu hr ha
    obtain ⟨fu, rfl⟩ : ∃ m, fu = m + 1 := ⟨fu - 1, by omega⟩
    have n1 : ¬ nI N < nI m := fun z => by have := (nI_ltI (by omega) (by omega)).mp z; omega
    rw [f_X3_plan_L17, if_neg n1, (isIn_eq (a := W) (p := p) hW (by omega)).1, Option.bind_some]
    unfold f_X3_plan_B51
    have key : ∀ x : Nat, x = (if W.testBit p = true then 0 else g m) → ∃ a', f_X3_plan_L17 v rL9 fu (upd a (p * 100 + m) (nI x)) nl (nI W) (nI N) (nI p) (nI (m + 1)) = rL9 a' nl (nI W) (nI N) (nI p + (-1 : Int32)) ∧ offR a a' p ∧ rowI a' p N (fun j => if W.testBit p = true then mxN g (L p) (K p) j 6 else g j) := by
      intro x hx
      obtain ⟨a', h1, h2, h3⟩ := ih fu (m + 1) (upd a (p * 100 + m) (nI x)) (by omega) (by omega) (fun j hj => by rw [upd_n (by omega)]; exact hr j hj) (fun j hj => by
        by_cases z : j = m
        · subst z; rw [upd_s, hx]
        · rw [upd_n (by omega)]; exact ha j (by omega))
      exact ⟨a', h1, fun j hj => by rw [h2 j hj, upd_n (by omega)], h3⟩
    by_cases hb : W.testBit p = true
    · rw [if_pos hb, if_neg (by decide), sm_eq (p := p) (m := m) rfl rfl (by omega), Option.bind_some, nI_1]
      exact key 0 (by rw [if_pos hb])
    · rw [if_neg hb, if_pos rfl, mf_eq (p := p + 1) (m := m) (nI_1 p) rfl (by omega), Option.bind_some, hr m (by omega), sm_eq (p := p) (m := m) rfl rfl (by omega), Option.bind_some, nI_1]
      exact key (g m) (by rw [if_neg hb])
theorem dN_row {W : Nat} {L : Nat → Nat} {K : Nat → Nat → Nat} {p m : Nat} (hp : p < 12) : dN W L K (12 - p) m = if W.testBit p = true then mxN (dN W L K (12 - (p + 1))) (L p) (K p) m 6 else dN W L K (12 - (p + 1)) m := by
  have e1 : 12 - p = (12 - (p + 1)) + 1 := by omega
  have e2 : 11 - (12 - (p + 1)) = p := by omega
  rw [e1, dN, e2]
theorem plan9 {v : HallV} {w : Nat → Int32} {nm : Nat → Int64} {M W : Nat} {L : Nat → Nat} {K : Nat → Nat → Nat} (Z : Nite v w nm M W L K) {N : Nat} {nl : Int32} (hN : N ≤ 99) : ∀ e fu (a : Nat → Int32), e ≤ 12 → e < fu → (∀ p, e ≤ p → p ≤ 12 → rowI a p N (dN W L K (12 - p))) → ∃ a', f_X3_plan_L9 v fu a nl (nI W) (nI N) (nI e + (-1 : Int32)) = some (a', nl) ∧ (∀ p, p ≤ 12 → rowI a' p N (dN W L K (12 - p))) ∧ (∀ j, 1200 ≤ j → a' j = a j) := by
  have hd := dN_le (W := W) (L := L) (K := K) (fun p hb k hk => Z.2.2.2.2.2.1 p (tbM Z.2.1 hb) k hk)
  intro e
  induction e with
  | zero =>
    intro fu a he hfu ha
    obtain ⟨fu, rfl⟩ : ∃ m, fu = m + 1 := ⟨fu - 1, by omega⟩
    exact ⟨a, by rw [f_X3_plan_L9, if_pos (by decide)], fun p hp => ha p (by omega) hp, fun _ _ => rfl⟩
  | succ e ih =>
    intro fu a he hfu ha
    obtain ⟨fu, rfl⟩ : ∃ m, fu = m + 1 := ⟨fu - 1, by omega⟩
    have hg : ∀ j, dN W L K (12 - (e + 1)) j ≤ 240 := fun j => by have := hd (12 - (e + 1)) j; omega
    obtain ⟨a1, h1, h2, h3⟩ := plan17 Z (p := e) (nl := nl) (rL9 := f_X3_plan_L9 v fu) (by omega) hN hg (N + 1) FU 0 a (by omega) (FU1 (by omega)) (ha (e + 1) (by omega) (by omega)) (fun j hj => absurd hj (by omega))
    obtain ⟨a2, g1, g2, g3⟩ := ih fu a1 (by omega) (by omega) (fun p hp hp12 => by
      by_cases z : p = e
      · subst z
        intro m hm
        rw [h3 m hm, dN_row (by omega)]
      · intro m hm
        rw [h2 _ (by omega)]
        exact ha p (by omega) hp12 m hm)
    refine ⟨a2, ?_, g2, fun j hj => by rw [g3 j hj, h2 j (by omega)]⟩
    rw [f_X3_plan_L9, pk_m1, if_neg (nI_pos (by omega))]
    exact h1.trans g1
theorem plan_eq {v : HallV} {w : Nat → Int32} {nm : Nat → Int64} {M W : Nat} {L : Nat → Nat} {K : Nat → Nat → Nat} (Z : Nite v w nm M W L K) {N : Nat} {nl : Int32} (hN : N ≤ 99) {a : Nat → Int32} (ha : ∀ m, m < 100 → a (1200 + m) = 0) : ∃ a', f_X3_plan v a nl (nI W) (nI N) = some (a', nI W) ∧ (∀ p, p ≤ 12 → rowI a' p N (dN W L K (12 - p))) ∧ (∀ m, m < 100 → a' (1200 + m) = 0) := by
  obtain ⟨a', h1, h2, h3⟩ := plan9 Z (nl := nI W) hN 12 FU a (Nat.le_refl _) (FU1 (by omega)) (fun p hp hp12 => by
    have e : p = 12 := by omega
    subst e
    intro m hm
    exact ha m (by omega))
  refine ⟨a', ?_, h2, fun m hm => by rw [h3 _ (by omega)]; exact ha m hm⟩
  unfold f_X3_plan
  rw [show (11 : Int32) = nI 12 + (-1 : Int32) from by decide]
  exact h1
/-- the other's -/
theorem nig70 {v : HallV} {w : Nat → Int32} {nm : Nat → Int64} {M W : Nat} {L : Nat → Nat} {K : Nat → Nat → Nat} (Z : Nite v w nm M W L K) {p m : Nat} {g : Nat → Nat} {r28 : (Nat → Int32) → Int32 → Int32 → Option (Nat → Int32)} {r34 : (Nat → Int32) → Int32 → Int32 → Int32 → Option (Nat → Int32)} (hb : W.testBit p = true) (hm : m ≤ 99) (hg : ∀ j, g j ≤ 240) {a : Nat → Int32} (hr : rowI a (p + 1) 99 g) : ∀ d fu k, d + k = 6 → d < fu → f_X11_findNight_L70 w nm r28 r34 fu a (nI W) (nI p) (nI m) (nI (mxN g (L p) (K p) m k)) (nI k) = r34 (upd a (p * 100 + m) (nI (mxN g (L p) (K p) m 6))) (nI W) (nI p) (nI (m + 1)) := by
  have hp : p < M := tbM Z.2.1 hb
  have hW : W < 2 ^ 31 := p12 Z.1 Z.2.1
  obtain ⟨zM, zW, zl, zl', zb, zk, zc, zm⟩ := Z
  have hlb := zb p hp
  intro d
  induction d with
  | zero =>
    intro fu k hd hfu
    obtain ⟨fu, rfl⟩ : ∃ m, fu = m + 1 := ⟨fu - 1, by omega⟩
    have e : k = 6 := by omega
    subst e
    have m1 : (100 : Int32) * nI p + nI m = nI (p * 100 + m) := by
      rw [show (100 : Int32) * nI p = nI (100 * p) from nI_mul 100 p, nI_add, Nat.mul_comm]
    rw [f_X11_findNight_L70, (isIn_eq (a := W) (p := p) hW (by omega)).2, Option.bind_some, if_pos hb, if_neg (by decide), if_pos (by decide)]
    unfold f_X11_findNight_B156
    rw [m1, gg (by omega) (by omega), nI_clamp (by omega), nI_1]
  | succ d ih =>
    intro fu k hd hfu
    obtain ⟨fu, rfl⟩ : ∃ m, fu = m + 1 := ⟨fu - 1, by omega⟩
    have hk : k ≤ 5 := by omega
    have n6 : ¬ (6 : Int32) ≤ nI k := nI_ge (a := k) (b := 6) (by omega) (by decide)
    have hcost : k * L p ≤ 5 * 7 := Nat.mul_le_mul hk hlb.2
    have hkk := zk p hp k hk
    have hmx := mxN_le (l := L p) (K := K p) (m := m) hg k (fun i hi => zk p hp i (by omega))
    have hcd := candN_le (l := L p) (K := K p) (m := m) (k := k) hg hkk
    have e1 := ih fu (k + 1) (by omega) (by omega)
    rw [mxN] at e1
    have last : f_X11_findNight_B132 w nm r28 r34 (f_X11_findNight_L70 w nm r28 r34 fu) a (nI W) (nI p) (nI m) (nI (mxN g (L p) (K p) m k)) (nI k) (nI (candN g (L p) (K p) m k)) = r34 (upd a (p * 100 + m) (nI (mxN g (L p) (K p) m 6))) (nI W) (nI p) (nI (m + 1)) := by
      unfold f_X11_findNight_B132 f_X11_findNight_B148
      rw [nI_1]
      by_cases q : candN g (L p) (K p) m k ≤ mxN g (L p) (K p) m k
      · rw [if_pos (nI_le q (by omega))]
        rw [if_pos q] at e1
        exact e1
      · rw [if_neg (fun z => q ((nI_leI (by omega) (by omega)).mp z))]
        rw [if_neg q] at e1
        exact e1
    rw [f_X11_findNight_L70, (isIn_eq (a := W) (p := p) hW (by omega)).2, Option.bind_some, if_pos hb, if_neg (by decide), if_neg n6, gg (by omega) (by omega), nI_clamp (by omega), zl' p hp, Option.bind_some, nI_mul]
    by_cases q : k * L p ≤ m
    · have m1 : (100 : Int32) * (nI p + (1 : Int32)) + (nI m - nI (k * L p)) = nI ((p + 1) * 100 + (m - k * L p)) := by
        rw [nI_1, show (100 : Int32) * nI (p + 1) = nI (100 * (p + 1)) from nI_mul 100 (p + 1), nI_sub q, nI_add, Nat.mul_comm]
      have g0 : (0 : Int32) ≤ nI m - nI (k * L p) := by rw [nI_sub q]; exact nI_pos' (by omega)
      rw [if_pos g0, m1, gg (by omega) (by omega), nI_clamp (by omega), hr (m - k * L p) (by omega), zm p hp k hk, Option.bind_some, nI_add]
      have ec : candN g (L p) (K p) m k = g (m - k * L p) + K p k := by unfold candN; rw [if_pos q, Nat.add_comm]
      rw [ec] at last
      exact last
    · have g0 : ¬ (0 : Int32) ≤ nI m - nI (k * L p) := Int32.not_le.mpr ((sub_lt0 (by omega) (by omega)).mpr (by omega))
      have ec : candN g (L p) (K p) m k = 0 := by unfold candN; rw [if_neg q]
      rw [ec] at last
      rw [if_neg g0]
      exact last
theorem nig34 {v : HallV} {w : Nat → Int32} {nm : Nat → Int64} {M W : Nat} {L : Nat → Nat} {K : Nat → Nat → Nat} (Z : Nite v w nm M W L K) {p : Nat} {g : Nat → Nat} {r28 : (Nat → Int32) → Int32 → Int32 → Option (Nat → Int32)} (hp : p < 12) (hg : ∀ j, g j ≤ 240) : ∀ d fu m (a : Nat → Int32), d + m = 100 → d < fu → rowI a (p + 1) 99 g → (∀ j, j < m → a (p * 100 + j) = nI (if W.testBit p = true then mxN g (L p) (K p) j 6 else g j)) → ∃ a', f_X11_findNight_L34 w nm r28 fu a (nI W) (nI p) (nI m) = r28 a' (nI W) (nI p + (-1 : Int32)) ∧ offR a a' p ∧ rowI a' p 99 (fun j => if W.testBit p = true then mxN g (L p) (K p) j 6 else g j) := by
  have hW : W < 2 ^ 31 := p12 Z.1 Z.2.1
  intro d
  induction d with
  | zero =>
    intro fu m a hd hfu hr ha
    obtain ⟨fu, rfl⟩ : ∃ m, fu = m + 1 := ⟨fu - 1, by omega⟩
    have e : m = 100 := by omega
    subst e
    exact ⟨a, by rw [f_X11_findNight_L34, if_pos (by decide)], fun _ _ => rfl, fun j hj => ha j (by omega)⟩
  | succ d ih =>
    intro fu m a hd hfu hr ha
    obtain ⟨fu, rfl⟩ : ∃ m, fu = m + 1 := ⟨fu - 1, by omega⟩
    have n1 : ¬ (100 : Int32) ≤ nI m := nI_ge (a := m) (b := 100) (by omega) (by decide)
    have key : ∀ x : Nat, x = (if W.testBit p = true then mxN g (L p) (K p) m 6 else g m) → ∃ a', f_X11_findNight_L34 w nm r28 fu (upd a (p * 100 + m) (nI x)) (nI W) (nI p) (nI (m + 1)) = r28 a' (nI W) (nI p + (-1 : Int32)) ∧ offR a a' p ∧ rowI a' p 99 (fun j => if W.testBit p = true then mxN g (L p) (K p) j 6 else g j) := by
      intro x hx
      obtain ⟨a', h1, h2, h3⟩ := ih fu (m + 1) (upd a (p * 100 + m) (nI x)) (by omega) (by omega) (fun j hj => by rw [upd_n (by omega)]; exact hr j hj) (fun j hj => by
        by_cases z : j = m
        · subst z; rw [upd_s, hx]
        · rw [upd_n (by omega)]; exact ha j (by omega))
      exact ⟨a', h1, fun j hj => by rw [h2 j hj, upd_n (by omega)], h3⟩
    rw [f_X11_findNight_L34, if_neg n1, (isIn_eq (a := W) (p := p) hW (by omega)).2, Option.bind_some]
    unfold f_X11_findNight_B65
    by_cases hb : W.testBit p = true
    · rw [if_pos hb, if_neg (by decide)]
      have e := nig70 Z (p := p) (m := m) (r28 := r28) (r34 := f_X11_findNight_L34 w nm r28 fu) hb (by omega) hg hr 6 FU 0 (by omega) (FU1 (by omega))
      have e : f_X11_findNight_L70 w nm r28 (f_X11_findNight_L34 w nm r28 fu) FU a (nI W) (nI p) (nI m) (0 : Int32) (0 : Int32) = _ := e
      rw [e]
      exact key _ (by rw [if_pos hb])
    · rw [if_neg hb, if_pos rfl]
      have m1 : (100 : Int32) * (nI p + (1 : Int32)) + nI m = nI ((p + 1) * 100 + m) := by
        rw [nI_1, show (100 : Int32) * nI (p + 1) = nI (100 * (p + 1)) from nI_mul 100 (p + 1), nI_add, Nat.mul_comm]
      have m2 : (100 : Int32) * nI p + nI m = nI (p * 100 + m) := by
        rw [show (100 : Int32) * nI p = nI (100 * p) from nI_mul 100 p, nI_add, Nat.mul_comm]
      have e : ∀ y x, 0 < y → f_X11_findNight_L70 w nm r28 (f_X11_findNight_L34 w nm r28 fu) y a (nI W) (nI p) (nI m) x (0 : Int32) = f_X11_findNight_L34 w nm r28 fu (upd a (p * 100 + m) x) (nI W) (nI p) (nI (m + 1)) := by
        intro y x hy
        obtain ⟨y, rfl⟩ : ∃ m, y = m + 1 := ⟨y - 1, by omega⟩
        rw [f_X11_findNight_L70, (isIn_eq (a := W) (p := p) hW (by omega)).2, Option.bind_some, if_neg hb, if_pos rfl]
        unfold f_X11_findNight_B156
        rw [m2, gg (by omega) (by omega), nI_clamp (by omega), nI_1]
      rw [m1, gg (by omega) (by omega), nI_clamp (by omega), hr m (by omega), e FU _ (FU1 (by omega))]
      exact key (g m) (by rw [if_neg hb])
theorem nig28 {v : HallV} {w : Nat → Int32} {nm : Nat → Int64} {M W : Nat} {L : Nat → Nat} {K : Nat → Nat → Nat} (Z : Nite v w nm M W L K) : ∀ e fu (a : Nat → Int32), e ≤ 12 → e < fu → (∀ p, e ≤ p → p ≤ 12 → rowI a p 99 (dN W L K (12 - p))) → ∃ a', f_X11_findNight_L28 w nm fu a (nI W) (nI e + (-1 : Int32)) = some a' ∧ (∀ p, p ≤ 12 → rowI a' p 99 (dN W L K (12 - p))) := by
  have hd := dN_le (W := W) (L := L) (K := K) (fun p hb k hk => Z.2.2.2.2.2.1 p (tbM Z.2.1 hb) k hk)
  intro e
  induction e with
  | zero =>
    intro fu a he hfu ha
    obtain ⟨fu, rfl⟩ : ∃ m, fu = m + 1 := ⟨fu - 1, by omega⟩
    exact ⟨a, by rw [f_X11_findNight_L28, if_pos (by decide)], fun p hp => ha p (by omega) hp⟩
  | succ e ih =>
    intro fu a he hfu ha
    obtain ⟨fu, rfl⟩ : ∃ m, fu = m + 1 := ⟨fu - 1, by omega⟩
    have hg : ∀ j, dN W L K (12 - (e + 1)) j ≤ 240 := fun j => by have := hd (12 - (e + 1)) j; omega
    obtain ⟨a1, h1, h2, h3⟩ := nig34 Z (p := e) (r28 := f_X11_findNight_L28 w nm fu) (by omega) hg 100 FU 0 a (by omega) (FU1 (by omega)) (ha (e + 1) (by omega) (by omega)) (fun j hj => absurd hj (by omega))
    obtain ⟨a2, g1, g2⟩ := ih fu a1 (by omega) (by omega) (fun p hp hp12 => by
      by_cases z : p = e
      · subst z
        intro m hm
        rw [h3 m hm, dN_row (by omega)]
      · intro m hm
        rw [h2 _ (by omega)]
        exact ha p (by omega) hp12 m hm)
    refine ⟨a2, ?_, g2⟩
    rw [f_X11_findNight_L28, pk_m1, if_neg (nI_pos (by omega))]
    exact h1.trans g1
theorem nig2 {v : HallV} {w : Nat → Int32} {nm : Nat → Int64} {M W : Nat} {L : Nat → Nat} {K : Nat → Nat → Nat} (Z : Nite v w nm M W L K) : ∀ d fu m (a : Nat → Int32), d + m = 100 → d < fu → (∀ j, j < m → a (1200 + j) = 0) → ∃ a', f_X11_findNight_L2 w nm fu a (nI W) (nI m) = some a' ∧ (∀ p, p ≤ 12 → rowI a' p 99 (dN W L K (12 - p))) := by
  intro d
  induction d with
  | zero =>
    intro fu m a hd hfu ha
    obtain ⟨fu, rfl⟩ : ∃ m, fu = m + 1 := ⟨fu - 1, by omega⟩
    have e : m = 100 := by omega
    subst e
    rw [f_X11_findNight_L2, if_pos (by decide), show (11 : Int32) = nI 12 + (-1 : Int32) from by decide]
    exact nig28 Z 12 FU a (Nat.le_refl _) (FU1 (by omega)) (fun p hp hp12 => by
      have e : p = 12 := by omega
      subst e
      intro m hm
      exact ha m (by omega))
  | succ d ih =>
    intro fu m a hd hfu ha
    obtain ⟨fu, rfl⟩ : ∃ m, fu = m + 1 := ⟨fu - 1, by omega⟩
    have n1 : ¬ (100 : Int32) ≤ nI m := nI_ge (a := m) (b := 100) (by omega) (by decide)
    have m1 : (1200 : Int32) + nI m = nI (1200 + m) := nI_add 1200 m
    rw [f_X11_findNight_L2, if_neg n1, m1, gg (by omega) (by omega), nI_clamp (by omega), nI_1]
    refine ih fu (m + 1) _ (by omega) (by omega) (fun j hj => ?_)
    by_cases z : j = m
    · subst z; rw [upd_s]
    · rw [upd_n (by omega)]; exact ha j (by omega)
theorem night_eq {v : HallV} {w : Nat → Int32} {nm : Nat → Int64} {M W : Nat} {L : Nat → Nat} {K : Nat → Nat → Nat} (Z : Nite v w nm M W L K) (a : Nat → Int32) : ∃ a', f_X11_findNight w nm a (nI W) = some a' ∧ (∀ p, p ≤ 12 → rowI a' p 99 (dN W L K (12 - p))) :=
  nig2 Z 100 FU 0 a (by omega) (FU1 (by omega)) (fun j hj => absurd hj (by omega))
