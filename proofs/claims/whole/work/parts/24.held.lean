/-! PURE 3: who there is, how well held -/
theorem subm (s q : Nat) (hs : s < 2 ^ 30) (hq : q < 2 ^ 30) : (if nI s - nI q ≤ 0 then (0 : Int32) else nI s - nI q) = nI (s - q) ∧ imax 0 (nI s - nI q) = nI (s - q) := by
  have ht : (nI s - nI q).toInt = (s : Int) - q := by
    rw [Int32.toInt_sub, nI_toInt (by omega), nI_toInt (by omega)]
    exact Int.bmod_eq_of_le (by omega) (by omega)
  unfold imax
  by_cases h : q ≤ s
  · rw [nI_sub h] at ht ⊢
    by_cases h0 : s - q = 0
    · rw [h0]; exact ⟨by decide, by decide⟩
    · rw [if_neg (nI_nle (by omega) (by omega)), if_pos (show (0 : Int32) < nI (s - q) from nI_lt (a := 0) (by omega) (by omega))]
      exact ⟨rfl, rfl⟩
  · have h1 : s - q = 0 := by omega
    have h2 : nI s - nI q < 0 := by rw [Int32.lt_iff_toInt_lt, ht, Int32.toInt_zero]; omega
    rw [h1, if_pos (Int32.le_of_lt h2), if_neg (Int32.not_lt.mpr (Int32.le_of_lt h2))]
    exact ⟨rfl, rfl⟩
theorem predle {x : Int32} {M : Nat} (hM : M < 2 ^ 30) : (0 ≤ x ∧ x ≤ nI M - 1) ↔ (0 ≤ x ∧ x < nI M) := by
  have ht : (nI M - 1).toInt = (M : Int) - 1 := by
    have e := Int32.toInt_sub (nI M) 1
    rw [e, nI_toInt (by omega), show (1 : Int32).toInt = 1 from rfl]
    exact Int.bmod_eq_of_le (by omega) (by omega)
  rw [Int32.le_iff_toInt_le (y := nI M - 1), ht, Int32.lt_iff_toInt_lt, nI_toInt (by omega)]
  constructor
  · rintro ⟨a, b⟩; exact ⟨a, by omega⟩
  · rintro ⟨a, b⟩; exact ⟨a, by omega⟩
theorem ltM {x : Int32} {M : Nat} (hM : M < 2 ^ 31) (h : 0 ≤ x ∧ x < nI M) : ∃ p : Nat, x = nI p ∧ p < M := by
  obtain ⟨j, hj, rfl⟩ := nI_of (Int32.not_lt.mpr h.1)
  exact ⟨j, rfl, (nI_ltI hj hM).mp h.2⟩
theorem ofM {p M : Nat} (hM : M < 2 ^ 31) (h : p < M) : (0 : Int32) ≤ nI p ∧ nI p < nI M := ⟨nI_pos' (by omega), nI_lt h hM⟩
/-- is it one of PEOPLE? both say so alike -/
theorem isone {v : HallV} {w : Nat → Int32} {M : Nat} (hM : M ≤ 12) (h1 : v.1 0 = nI M) (h2 : w 0 = nI M) (x : Int32) : f_X8_holds (v.1 0) x = some (if 0 ≤ x ∧ x < nI M then 1 else 0) ∧ f_X11_isOne w x = some (if 0 ≤ x ∧ x < nI M then 1 else 0) := by
  refine ⟨by rw [holds_eq h1 (by omega), h1], ?_⟩
  unfold f_X11_isOne
  have g : ¬ ((0 : Int32) < 0 ∨ 960 ≤ (0 : Int32).toNatClampNeg) := by decide
  rw [if_neg g, show (0 : Int32).toNatClampNeg = 0 from rfl, h2, in32 0 (nI M - 1) (by decide) rfl]
  simp only [Option.bind_some, i01b, if_true]
  by_cases q : 0 ≤ x ∧ x < nI M
  · rw [if_pos q, if_pos ((predle (by omega)).mpr q)]
  · rw [if_neg q, if_neg (fun z => q ((predle (by omega)).mp z))]
theorem num_col {v : HallV} {p c : Nat} {y : Int32} (hp : p < 12) (hy : y = nI c) (hc : c < 7) : f_X8_number (7 : Int32) 84 (v.2.1 0) (nI p) y = some (v.2.1 0 (p * 7 + c)).toInt32 := num_at p c 7 rfl hy rfl (by omega) (by decide)
/-- HELD n days on -/
theorem held_eq {v : HallV} {w : Nat → Int32} {nm : Nat → Int64} {M p n : Nat} (hM : M ≤ 12) (hp : p < M) (hP : PRel v w nm 0 0 p) (hs : ∀ c, c < 8 → v.2.1 3 c = (w (0 + 102 + c)).toInt64 ∧ inN (w (0 + 102 + c)) (sLo c) (sHi c)) (hd : v.2.2 = w (0 + 115)) (hd2 : inN (w (0 + 115)) 0 999) (hn : n ≤ 999) :
    ∃ r : Nat, r ≤ 20 ∧ f_X1_strengthLeft v (nI p) (nI n) = some (nI r) ∧ f_X11_heldOn w (nI p) (w 115 + nI n) = some (nI r) := by
  obtain ⟨-, -, -, -, -, ⟨hs4, s, es, -, hsb⟩, -, hl6, ⟨la, el, -, hlb⟩, hle⟩ := hP
  obtain ⟨d, ed, -, hdb⟩ := hd2
  obtain ⟨hf1, f, ef, hfa, hfb⟩ := hs 1 (by decide)
  rw [el, ed] at hle
  have hle := (nI_leI (by omega) (by omega)).mp hle
  simp only [Nat.zero_add] at *
  have hfa : 1 ≤ f := hfa
  have hfb : f ≤ 99 := hfb
  refine ⟨s - (d + n - la) / f, Nat.le_trans (Nat.sub_le _ _) hsb, ?_, ?_⟩
  · unfold f_X1_strengthLeft f_X1_strengthLeft_B37 f_X1_setting
    have n1 : f_X8_number (8 : Int32) 8 (v.2.1 3) 0 1 = some (nI f) := by
      rw [num_at (wd := 8) (x := 0) (y := 1) 0 1 8 rfl rfl rfl (by omega) (by decide), Nat.zero_mul, Nat.zero_add, hf1, i64_i32, ef]
    have n2 : ¬ nI f ≤ 0 := nI_nle (by omega) (by omega)
    have n3 : ¬ nI f = 0 := nI_ne0 (by omega) (by omega)
    have n4 : nI d + nI n - nI la = nI (d + n - la) := by rw [nI_add, nI_sub (by omega)]
    have n5 : nI (d + n - la) / nI f = nI ((d + n - la) / f) := nI_div (by omega) (by omega)
    simp only [n1, Option.bind_some, num_col (v := v) (p := p) (c := 6) (y := 6) (by omega) rfl (by omega), num_col (v := v) (p := p) (c := 4) (y := 4) (by omega) rfl (by omega), hl6, hs4, i64_i32, el, es, hd, ed, n2, n3, if_false, n4, n5]
    rw [(subm s ((d + n - la) / f) (by omega) (Nat.lt_of_le_of_lt (Nat.div_le_self _ _) (by omega))).2]
  · unfold f_X11_heldOn f_X11_heldOn_B38
    have m1 : (61 : Int32) + nI p = nI (61 + p) := nI_add 61 p
    have m2 : (37 : Int32) + nI p = nI (37 + p) := nI_add 37 p
    have m3 : ¬ ((103 : Int32) < 0 ∨ 960 ≤ (103 : Int32).toNatClampNeg) := by decide
    have m4 : ¬ ((103 : Int32) < 0 ∨ 960 ≤ 103) := by decide
    have n3 : ¬ nI f = 0 := nI_ne0 (by omega) (by omega)
    have n4 : nI (d + n) - nI la = nI (d + n - la) := by rw [nI_sub (by omega)]
    have n5 : nI (d + n - la) / nI f = nI ((d + n - la) / f) := nI_div (by omega) (by omega)
    have e1 : w (61 + p) = nI la := el
    have e2 : w (37 + p) = nI s := es
    have e3 : w 103 = nI f := ef
    have e4 : w 115 = nI d := ed
    simp (disch := omega) only [m1, m2, gg, gg', nI_clamp, e1, e2, e4, m3, m4, if_false, show (103 : Int32).toNatClampNeg = 103 from rfl, e3, n3, nI_add, n4, n5]
    by_cases z : d + n - la = 0
    · rw [z, Nat.zero_div]
      have z2 := (subm s 0 (by omega) (by omega)).1
      simp only [show nI 0 ≤ (0 : Int32) from by decide, if_true]
      by_cases q : nI s - (0 : Int32) ≤ 0
      · have q2 : nI s - nI 0 ≤ 0 := q
        rw [if_pos q2] at z2
        rw [if_pos q, ← z2]
      · have q2 : ¬ nI s - nI 0 ≤ 0 := q
        rw [if_neg q2] at z2
        rw [if_neg q, ← z2]; rfl
    · have z1 : ¬ nI (d + n - la) ≤ 0 := nI_nle (by omega) (by omega)
      have z2 := (subm s ((d + n - la) / f) (by omega) (Nat.lt_of_le_of_lt (Nat.div_le_self _ _) (by omega))).1
      simp only [z1, if_false]
      by_cases q : nI s - nI ((d + n - la) / f) ≤ 0
      · rw [if_pos q] at z2 ⊢; rw [← z2]
      · rw [if_neg q] at z2 ⊢; rw [← z2]
def gM (a b : Int32) : Int32 := (((if 4 * b = 0 ∧ 4 * a = 0 then (1 : Int32) else 0) ||| (if 10 * (20 - b) < 4 * b then 0 else 2)) ||| (if 10 * (20 - a) < 4 * a then 0 else 4)) ||| (if 4 * b < 10 * (20 - b) then 0 else if 4 * a < 10 * (20 - a) then 0 else 8)
theorem restsC : ∀ i, i < 21 → ∀ j, j < 21 → f_X0_restBits (nI i) (nI j) = some (gM (nI i) (nI j)) := by decide +kernel
theorem restsM (mr : Nat → Int32) {a b : Int32} (h1 : 0 ≤ a ∧ a ≤ 20) (h2 : 0 ≤ b ∧ b ≤ 20) : f_X11_rests mr a b = some (gM a b, mr) := by
  unfold f_X11_rests
  simp only [in32 (la := 0) (lb := 20) 0 20 (by decide) (by decide), Option.bind_some, i01, h1, h2, and_self, not_true, if_false]
  unfold f_X11_rests_B71 f_X11_rests_B72 f_X11_rests_B87 f_X11_rests_B104 f_X11_rests_B127 f_X11_rests_B128 gM
  repeat' split
  all_goals first | rfl | simp_all
