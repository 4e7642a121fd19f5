/-! PURE 14: which rows may be gone at -/
def dg (x k : Nat) : Nat := x / 10 ^ k % 10
def mok (T : Nat) : Nat → Nat → Nat → Bool
  | 0, _, _ => true
  | f + 1, y, S => if y = 0 then true else (decide (1 ≤ y % 10 ∧ y % 10 ≤ T) && !S.testBit (y % 10 - 1)) && mok T f (y / 10) (S ||| 2 ^ (y % 10 - 1))
theorem mok_L {w : Nat → Int32} {T : Nat} (hT : T ≤ 5) (h73 : w 73 = nI T) : ∀ f fu y S, y < 10 ^ f → f ≤ 5 → S < 2 ^ 20 → f < fu → f_X11_isRow_L15 w fu (nI S) 1 (nI y) = some (bI (mok T f y S)) := by
  intro f
  induction f with
  | zero =>
    intro fu y S hy _ _ hf
    obtain ⟨fu, rfl⟩ : ∃ m, fu = m + 1 := ⟨fu - 1, by omega⟩
    have e : y = 0 := by simp at hy; omega
    subst e
    rw [f_X11_isRow_L15, if_pos (by decide), if_pos (by decide)]; rfl
  | succ f ih =>
    intro fu y S hy hf5 hS hf
    obtain ⟨fu, rfl⟩ : ∃ m, fu = m + 1 := ⟨fu - 1, by omega⟩
    have hy5 : y < 100000 := Nat.lt_of_lt_of_le hy (Nat.pow_le_pow_right (n := 10) (by decide) hf5)
    rw [f_X11_isRow_L15, mok]
    by_cases z : y = 0
    · subst z
      rw [if_pos (by decide), if_pos (by decide)]; rfl
    · have i10 : irm (nI y) (10 : Int32) = nI (y % 10) := irm_n (b := 10) (by omega) (by decide)
      have d10 : nI y / (10 : Int32) = nI (y / 10) := nI_div (b := 10) (by omega) (by decide)
      have dead : ∀ a b, f_X11_isRow_L15 w fu a 0 b = some 0 := by
        intro a b
        obtain ⟨fu, rfl⟩ : ∃ m, fu = m + 1 := ⟨fu - 1, by omega⟩
        rw [f_X11_isRow_L15, if_pos (show (0 : Int32) = 0 ∨ (0 : Int32) = 1 from Or.inl rfl), if_pos (show (0 : Int32) = 0 from rfl), ite_self]
      rw [if_neg (nI_nle (by omega) (by omega)), if_neg (by decide), if_neg k73.1, k73.2.1, h73, i10, in32 0 (nI T - 1) (by decide) rfl, Option.bind_some]
      simp only [i01, predle (M := T) (by omega)]
      unfold f_X11_isRow_B66 f_X11_isRow_B67 f_X11_isRow_B81
      rw [d10, dead, if_neg z]
      by_cases g : 1 ≤ y % 10 ∧ y % 10 ≤ T
      · have em : nI (y % 10) - (1 : Int32) = nI (y % 10 - 1) := nI_sub (b := 1) g.1
        have p5 : 2 ^ (y % 10 - 1) < 2 ^ 20 := Nat.pow_lt_pow_right (by decide) (by omega)
        rw [em, if_neg (fun q => q ⟨nI_pos' (by omega), nI_lt (by omega) (by omega)⟩), (isIn_eq (a := S) (by omega) (by omega)).2, Option.bind_some, shb _ (by omega), nI_or (by omega) (by omega)]
        simp only [ite01, one0, if_true, if_false]
        have := ih fu (y / 10) (S ||| 2 ^ (y % 10 - 1)) (by rw [Nat.pow_succ] at hy; exact Nat.div_lt_of_lt_mul (by omega)) (by omega) (Nat.or_lt_two_pow hS p5) (by omega)
        rw [this]
        cases h : S.testBit (y % 10 - 1)
        · simp [g]
        · simp; rfl
      · rw [if_pos]
        · have : decide (1 ≤ y % 10 ∧ y % 10 ≤ T) = false := by simp [g]
          rw [this]; rfl
        · intro q
          by_cases y0 : y % 10 = 0
          · rw [y0] at q; exact absurd q.1 (by decide)
          · rw [show nI (y % 10) - (1 : Int32) = nI (y % 10 - 1) from nI_sub (b := 1) (by omega)] at q
            have := (nI_ltI (by omega) (by omega)).mp q.2
            omega
theorem mok_iff (T x : Nat) : ∀ f i S, mok T f (x / 10 ^ i) S = true ↔ ∀ k, i ≤ k → k < i + f → 10 ^ k ≤ x → ((1 ≤ dg x k ∧ dg x k ≤ T) ∧ S.testBit (dg x k - 1) = false ∧ ∀ k', i ≤ k' → k' < k → dg x k' - 1 ≠ dg x k - 1) := by
  intro f
  induction f with
  | zero => intro i S; exact ⟨fun _ k h1 h2 => absurd h2 (by omega), fun _ => rfl⟩
  | succ f ih =>
    intro i S
    rw [mok]
    by_cases z : x / 10 ^ i = 0
    · rw [if_pos z]
      refine ⟨fun _ k h1 _ h3 => ?_, fun _ => rfl⟩
      have hp : 0 < 10 ^ i := Nat.pow_pos (by decide)
      have h4 : x < 10 ^ i := (Nat.div_eq_zero_iff.mp z).resolve_left (by omega)
      have h5 : 10 ^ i ≤ 10 ^ k := Nat.pow_le_pow_right (by decide) h1
      omega
    · rw [if_neg z, Nat.div_div_eq_div_mul, ← Nat.pow_succ]
      have hx : 10 ^ i ≤ x := by
        rcases Nat.lt_or_ge x (10 ^ i) with h | h
        · exact absurd (Nat.div_eq_of_lt h) z
        · exact h
      simp only [Bool.and_eq_true, ih, decide_eq_true_eq, Bool.not_eq_true']
      constructor
      · intro ⟨⟨h1, h2⟩, h3⟩ k hk1 hk2 hk3
        by_cases e : k = i
        · subst e
          exact ⟨h1, h2, fun k' a b => absurd b (by omega)⟩
        · obtain ⟨q1, q2, q3⟩ := h3 k (by omega) (by omega) hk3
          rw [Nat.testBit_or, Nat.testBit_two_pow] at q2
          simp only [Bool.or_eq_false_iff, decide_eq_false_iff_not] at q2
          refine ⟨q1, q2.1, fun k' a b => ?_⟩
          by_cases e2 : k' = i
          · rw [e2]; exact q2.2
          · exact q3 k' (by omega) b
      · intro h
        have h0 := h i (Nat.le_refl _) (by omega) hx
        refine ⟨⟨h0.1, h0.2.1⟩, fun k hk1 hk2 hk3 => ?_⟩
        obtain ⟨q1, q2, q3⟩ := h k (by omega) (by omega) hk3
        refine ⟨q1, ?_, fun k' a b => q3 k' (by omega) b⟩
        rw [Nat.testBit_or, Nat.testBit_two_pow]
        simp only [Bool.or_eq_false_iff, decide_eq_false_iff_not]
        exact ⟨q2, q3 i (Nat.le_refl _) (by omega)⟩
theorem vok_set (T x : Nat) (b : Nat) : ∀ j, j ≤ 5 → ((vok T x j).2.testBit b = true ↔ ∃ i, i < j ∧ 10 ^ (4 - i) ≤ x ∧ dgt x i - 1 = b) := by
  intro j
  induction j with
  | zero =>
    intro _
    constructor
    · intro h; simp [vok] at h
    · rintro ⟨i, h, _⟩; omega
  | succ j ih =>
    intro hj
    rw [vok]
    by_cases q : x < 10 ^ (4 - j)
    · rw [if_pos q, ih (by omega)]
      constructor
      · rintro ⟨i, h1, h2, h3⟩; exact ⟨i, by omega, h2, h3⟩
      · rintro ⟨i, h1, h2, h3⟩
        by_cases e : i = j
        · subst e; omega
        · exact ⟨i, by omega, h2, h3⟩
    · rw [if_neg q]
      simp only [Nat.testBit_or, Nat.testBit_two_pow, Bool.or_eq_true, decide_eq_true_eq, ih (show j ≤ 5 by omega)]
      constructor
      · rintro (⟨i, h1, h2, h3⟩ | h)
        · exact ⟨i, by omega, h2, h3⟩
        · exact ⟨j, by omega, by omega, h⟩
      · rintro ⟨i, h1, h2, h3⟩
        by_cases e : i = j
        · subst e; exact Or.inr h3
        · exact Or.inl ⟨i, by omega, h2, h3⟩
theorem vok_iff (T x : Nat) : ∀ j, j ≤ 5 → ((vok T x j).1 = true ↔ ∀ i, i < j → 10 ^ (4 - i) ≤ x → ((1 ≤ dgt x i ∧ dgt x i ≤ T) ∧ ∀ i', i' < i → 10 ^ (4 - i') ≤ x → dgt x i' - 1 ≠ dgt x i - 1)) := by
  intro j
  induction j with
  | zero => intro _; exact ⟨fun _ i h => absurd h (by omega), fun _ => rfl⟩
  | succ j ih =>
    intro hj
    rw [vok]
    by_cases q : x < 10 ^ (4 - j)
    · rw [if_pos q, ih (by omega)]
      constructor
      · intro h i h1 h2
        by_cases e : i = j
        · subst e; omega
        · exact h i (by omega) h2
      · intro h i h1 h2; exact h i (by omega) h2
    · rw [if_neg q]
      have hs := vok_set T x (dgt x j - 1) j (by omega)
      simp only [Bool.and_eq_true, ih (show j ≤ 5 by omega), decide_eq_true_eq, Bool.not_eq_true']
      constructor
      · intro ⟨h1, h2, h3⟩ i h4 h5
        by_cases e : i = j
        · subst e
          refine ⟨h2, fun i' a b c => ?_⟩
          have := hs.mpr ⟨i', a, b, c⟩
          rw [h3] at this; exact absurd this Bool.false_ne_true
        · exact h1 i (by omega) h5
      · intro h
        refine ⟨fun i h1 h2 => h i (by omega) h2, (h j (by omega) (by omega)).1, ?_⟩
        cases hb : (vok T x j).2.testBit (dgt x j - 1) with
        | false => rfl
        | true =>
          obtain ⟨i', a, b, c⟩ := hs.mp hb
          exact absurd c ((h j (by omega) (by omega)).2 i' a b)
theorem mok_vok (T x : Nat) : mok T 5 x 0 = (vok T x 5).1 := by
  apply Bool.eq_iff_iff.mpr
  have hm := mok_iff T x 5 0 0
  rw [Nat.pow_zero, Nat.div_one] at hm
  rw [hm, vok_iff T x 5 (by omega)]
  have e : ∀ i, i < 5 → dgt x i = dg x (4 - i) := fun i _ => rfl
  have mono : ∀ a b, a ≤ b → 10 ^ b ≤ x → 10 ^ a ≤ x := fun a b h h2 => Nat.le_trans (Nat.pow_le_pow_right (by decide) h) h2
  constructor
  · intro h i h1 h2
    rw [e i h1]
    refine ⟨(h (4 - i) (by omega) (by omega) h2).1, fun i' a b => ?_⟩
    rw [e i' (by omega)]
    exact fun z => (h (4 - i') (by omega) (by omega) b).2.2 (4 - i) (by omega) (by omega) z.symm
  · intro h k h1 h2 h3
    have q := h (4 - k) (by omega)
    rw [e _ (by omega), show 4 - (4 - k) = k from by omega] at q
    refine ⟨(q h3).1, Nat.zero_testBit _, fun k' _ b => ?_⟩
    have q2 := (h (4 - k') (by omega) (by rw [show 4 - (4 - k') = k' from by omega]; exact mono _ _ (by omega) h3)).2 (4 - k) (by omega) (by rw [show 4 - (4 - k) = k from by omega]; exact h3)
    rw [e _ (by omega), e _ (by omega), show 4 - (4 - k') = k' from by omega, show 4 - (4 - k) = k from by omega] at q2
    exact fun z => q2 z.symm
theorem mok_top {T x : Nat} (hT : T ≤ 5) (hx : x ≤ 55555) (h : mok T 5 x 0 = true) : x ≤ 54321 := by
  have hm := mok_iff T x 5 0 0
  rw [Nat.pow_zero, Nat.div_one] at hm
  have h := hm.mp h
  rcases Nat.lt_or_ge 54321 x with hx2 | hx2
  · exfalso
    have h4 := h 4 (by omega) (by omega) (by omega)
    have h3 := h 3 (by omega) (by omega) (by omega)
    have h2 := h 2 (by omega) (by omega) (by omega)
    have h1 := h 1 (by omega) (by omega) (by omega)
    have h0 := h 0 (by omega) (by omega) (by omega)
    have n43 := h4.2.2 3 (by omega) (by omega)
    have n42 := h4.2.2 2 (by omega) (by omega)
    have n41 := h4.2.2 1 (by omega) (by omega)
    have n40 := h4.2.2 0 (by omega) (by omega)
    have n32 := h3.2.2 2 (by omega) (by omega)
    have n31 := h3.2.2 1 (by omega) (by omega)
    have n30 := h3.2.2 0 (by omega) (by omega)
    have n21 := h2.2.2 1 (by omega) (by omega)
    have n20 := h2.2.2 0 (by omega) (by omega)
    have n10 := h1.2.2 0 (by omega) (by omega)
    have a4 := h4.1
    have a3 := h3.1
    have a2 := h2.1
    have a1 := h1.1
    have a0 := h0.1
    have v4 : dg x 4 = x / 10000 % 10 := rfl
    have v3 : dg x 3 = x / 1000 % 10 := rfl
    have v2 : dg x 2 = x / 100 % 10 := rfl
    have v1 : dg x 1 = x / 10 % 10 := rfl
    have v0 : dg x 0 = x / 1 % 10 := rfl
    clear h hm h4 h3 h2 h1 h0
    have d4 : dg x 4 = 5 := by clear n43 n42 n41 n40 n32 n31 n30 n21 n20 n10; omega
    have d3 : dg x 3 = 4 := by clear n42 n41 n40 n32 n31 n30 n21 n20 n10; omega
    have d2 : dg x 2 = 3 := by clear n43 n41 n40 n31 n30 n21 n20 n10; omega
    have d1 : dg x 1 = 2 := by clear n43 n42 n40 n32 n30 n20 n10; omega
    have d0 : dg x 0 = 1 := by clear n43 n42 n41 n32 n31 n21; omega
    clear n43 n42 n41 n40 n32 n31 n30 n21 n20 n10
    omega
  · exact hx2
theorem isRow_eq {w : Nat → Int32} {T : Nat} (hT : T ≤ 5) (h73 : w 73 = nI T) (y : Int32) : ∃ b : Bool, f_X11_isRow w y = some (bI b) ∧ (b = true → ∃ x, y = nI x ∧ x < 2 ^ 31 ∧ val T x = true) ∧ (b = false → ∀ x, y = nI x → x < 2 ^ 31 → val T x = false) := by
  unfold f_X11_isRow
  rw [in32 (la := 0) (lb := 55555) 0 55555 (by decide) (by decide), Option.bind_some]
  by_cases g : 0 ≤ y ∧ y ≤ 55555
  · obtain ⟨x, rfl, _, hx⟩ := (inN_iff (x := y) (a := 0) (b := 55555) (by decide) (by decide)).mpr g
    rw [if_pos g]
    have := mok_L hT h73 5 FU x 0 (by omega) (by omega) (by decide) (FU1 (by omega))
    have this : f_X11_isRow_L15 w FU (0 : Int32) 1 (nI x) = _ := this
    refine ⟨mok T 5 x 0, this, fun h => ⟨x, rfl, by omega, ?_⟩, fun h x' e hx' => ?_⟩
    · unfold val
      have l := mok_top hT hx h
      rw [mok_vok] at h
      rw [h]; simp [l]
    · have e2 := (nI_eq (by omega) hx').mp e
      subst e2
      rw [mok_vok] at h
      unfold val
      rw [h, Bool.and_false]
  · rw [if_neg g]
    refine ⟨false, ?_, fun z => absurd z (by decide), fun _ x e hx => ?_⟩
    · obtain ⟨m, hm⟩ := FU4
      rw [hm, f_X11_isRow_L15, if_pos (show (0 : Int32) = 0 ∨ (0 : Int32) = 1 from Or.inl rfl), if_pos (show (0 : Int32) = 0 from rfl), ite_self]; rfl
    · unfold val
      have : ¬ x ≤ 54321 := fun z => g (by rw [e]; exact ⟨nI_pos' hx, nI_le (b := 55555) (by omega) (by decide)⟩)
      simp [this]
theorem val_d {T x : Nat} (h : val T x = true) : x ≤ 54321 ∧ ∀ i, i < 5 → dgt x i ≤ T := by
  unfold val at h
  simp only [Bool.and_eq_true, decide_eq_true_eq] at h
  exact ⟨h.1, (vok_d 5 (by omega) h.2).1⟩
theorem k400 : (400 : Nat) ^ 5 = 10240000000000 := by decide
theorem c400 : (10240000000000 : Int64) = lN 10240000000000 := by decide
theorem share_row {v : HallV} {w : Nat → Int32} {p T h lim x : Nat} (G : Goer v w p T h lim) (hd : ∀ i, i < 5 → dgt x i ≤ T) (fab fbe mabove mbelow : Int64) : ∃ f1 f2 : Int64, f_X10_setFraction fab fbe ((10240000000000 : Int64) - lN (stp w p h lim x 5).2.2.2.2) (10240000000000 : Int64) = some (f1, f2) ∧ f_X11_share mabove mbelow ((10240000000000 : Int64) - lN (stp w p h lim x 5).2.2.2.2) (10240000000000 : Int64) = some ((1 : Int32), f1, f2) := by
  have hb := (stp_b (x := x) G 5 (by omega) hd).2.2
  rw [k400] at hb
  rw [c400, lN_sub hb]
  exact frac_eq fab fbe mabove mbelow _ _ (by omega) (by decide) (by decide)
theorem comesC {fab fbe : Int64} {bads noes fulls : Int32} {now : HallV} {r1 r2 r3 r4 r5 : Int32} {r6 : Int64} {x1 x2 h s2 s3 s4 s5 : Int32} {m f1 f2 : Int64} (o1 : f_X8_holds (now.1 0) x1 = some 1) (k1 : f_X7_go now r1 r2 r3 r4 r5 r6 x1 x2 = some (1, h, s2, s3, s4, s5, m)) (q1 : f_X10_setFraction fab fbe ((10240000000000 : Int64) - m) (10240000000000 : Int64) = some (f1, f2)) : f_X10_comes fab fbe bads noes fulls now r1 r2 r3 r4 r5 r6 x1 x2 = some (s2, f1, f2, bads, noes, fulls, h, s2, s3, s4, s5, m) := by
  unfold f_X10_comes f_X7_brings f_X7_seconds
  have n1 : ¬ (1 : Int32) = 0 := by decide
  rw [o1, Option.bind_some, if_neg n1, k1, Option.bind_some, if_neg (show ¬ ((1 : Int32), h, s2, s3, s4, s5, m).1 = 0 from n1), Option.bind_some]
  show Option.bind (f_X10_setFraction fab fbe ((10240000000000 : Int64) - m) (10240000000000 : Int64)) _ = _
  rw [q1, Option.bind_some, Option.bind_some]
theorem comesM {mw : Nat → Int32} {mabove mbelow : Int64} {mr : Nat → Int32} {t0 t : Int32} {m0 m : Int64} {x1 x2 : Int32} {f1 f2 : Int64} (o2 : f_X11_isOne mw x1 = some 1) (y1 : f_X11_isRow mw x2 = some 1) (k3 : f_X11_go mw t0 m0 x1 x2 = some (t, m)) (q2 : f_X11_share mabove mbelow ((10240000000000 : Int64) - m) (10240000000000 : Int64) = some ((1 : Int32), f1, f2)) : f_X11_comes mw mabove mbelow mr t0 m0 x1 x2 = some (t, f1, f2, mr, t, m) := by
  unfold f_X11_comes
  rw [o2, Option.bind_some, if_neg (by decide), y1, Option.bind_some, if_neg (by decide), k3, Option.bind_some, q2, Option.bind_some]
theorem r_comes {keptImages : Int32} {fab : Int64} {fbe : Int64} {bads : Int32} {noes : Int32} {fulls : Int32} {now : HallV} {bl : Int32} {kp : Int32} {ring : Nat → HallV} {imgs : Nat → HallV} {tlen : Int32} {tby : Nat → Int32} {draft : HallV} {rall : Nat → Int32} {rheld : Int32} {rsecs : Int32} {rhelp : Int32} {rna : Int32} {rout : Int32} {rmiss : Int64} {nmost : Nat → Int32} {mw : Nat → Int32} {mnames : Nat → Int64} {mkept : Nat → Int32} {mtext : Nat → Int32} {mtexted : Int32} {mundo : Int32} {mabove : Int64} {mbelow : Int64} {mrefused : Nat → Int32} {mtakes : Int32} {mmisses : Int64} (hR : Rel now bl kp ring imgs tlen tby draft rall nmost keptImages fab fbe bads noes fulls mw mnames mkept mtext mtexted mundo mabove mbelow mrefused) (x1 : Int32) (x2 : Int32) : ∃ (q : Int32 × Int64 × Int64 × Int32 × Int32 × Int32 × Int32 × Int32 × Int32 × Int32 × Int32 × Int64) (q' : Int32 × Int64 × Int64 × (Nat → Int32) × Int32 × Int64), f_X10_comes fab fbe bads noes fulls now rheld rsecs rhelp rna rout rmiss x1 x2 = some q ∧ f_X11_comes mw mabove mbelow mrefused mtakes mmisses x1 x2 = some q' ∧ q.1 = q'.1 ∧ Rel now bl kp ring imgs tlen tby draft rall nmost keptImages q.2.1 q.2.2.1 q.2.2.2.1 q.2.2.2.2.1 q.2.2.2.2.2.1 mw mnames mkept mtext mtexted mundo q'.2.1 q'.2.2.1 q'.2.2.2.1 := by
  obtain ⟨M, W, P, hW, e1, e2⟩ := hR.1.ppl
  obtain ⟨o1, o2⟩ := isone P.m12 P.a1 P.a2 x1
  obtain ⟨b, n, f, m, c1, c2, c3⟩ := ct hR.2.2.2.2.2.2.2.2 (-2)
  by_cases g : 0 ≤ x1 ∧ x1 < nI M
  · obtain ⟨p, rfl, hpM⟩ := ltM (by have := P.m12; omega) g
    obtain ⟨T, h, lim, G⟩ := hR.1.goer P.a1 P.m12 hpM
    obtain ⟨y, y1, y2, y3⟩ := isRow_eq G.1.1 G.1.2.2 x2
    obtain ⟨k1, k2⟩ := goC_eq (a1 := rheld) (a2 := rsecs) (a3 := rhelp) (a4 := rna) (a5 := rout) (a6 := rmiss) G x2
    cases y with
    | true =>
      obtain ⟨x, rfl, hx, hv⟩ := y2 rfl
      obtain ⟨hx2, hdg⟩ := val_d hv
      have k1 := k1 x rfl hx hv
      have k3 := goM_eq (t0 := mtakes) (m0 := mmisses) G (by omega) hdg
      obtain ⟨f1, f2, q1, q2⟩ := share_row G hdg fab fbe mabove mbelow
      have o1 : f_X8_holds (now.1 0) (nI p) = some 1 := by rw [o1, if_pos g]
      have o2 : f_X11_isOne mw (nI p) = some 1 := by rw [o2, if_pos g]
      have A := comesC (bads := bads) (noes := noes) (fulls := fulls) o1 k1 q1
      have B := comesM (mr := mrefused) o2 y1 k3 q2
      exact ⟨_, _, A, B, rfl, ⟨hR.1, hR.2.1, hR.2.2.1, hR.2.2.2.1, hR.2.2.2.2.1, hR.2.2.2.2.2.1, hR.2.2.2.2.2.2.1, ⟨rfl, rfl⟩, hR.2.2.2.2.2.2.2.2⟩⟩
    | false =>
      obtain ⟨junk, k2⟩ := k2 (y3 rfl)
      have b0 : bI false = (0 : Int32) := rfl
      refine ⟨(-2, fab, fbe, b, n, f, junk), (-2, mabove, mbelow, m, mtakes, mmisses), ?_, ?_, rfl, hR.now hR.1 (fun _ _ => rfl) (fun _ _ => rfl) c3⟩
      · unfold f_X10_comes f_X10_comes_B30
        simp only [o1, g, k2, c1, one0, i01, Option.bind_some, not_true, if_false, not_false_eq_true, if_true, and_self]
      · unfold f_X11_comes f_X11_comes_B16
        simp only [o2, g, y1, b0, c2, one0, i01, Option.bind_some, not_true, if_false, not_false_eq_true, if_true, and_self]
  · refine ⟨(-2, fab, fbe, b, n, f, rheld, rsecs, rhelp, rna, rout, rmiss), (-2, mabove, mbelow, m, mtakes, mmisses), ?_, ?_, rfl, hR.now hR.1 (fun _ _ => rfl) (fun _ _ => rfl) c3⟩
    · unfold f_X10_comes f_X10_comes_B30
      simp only [o1, g, c1, one0, i01, Option.bind_some, not_true, if_false, not_false_eq_true, if_true, and_self]
    · unfold f_X11_comes f_X11_comes_B16
      simp only [o2, g, c2, one0, i01, Option.bind_some, not_true, if_false, not_false_eq_true, if_true, and_self]
