/-! PURE 1: numbers, ranges, rows of tables -/
theorem i64_i32 (x : Int32) : x.toInt64.toInt32 = x := by simp
theorem nI_mul (a b : Nat) : nI a * nI b = nI (a * b) := (Int32.ofNat_mul a b).symm
theorem nI_sub {a b : Nat} (h : b ≤ a) : nI a - nI b = nI (a - b) := by
  have e : nI (a - b) + nI b = nI a := by rw [nI_add]; congr 1; omega
  rw [← e]
  apply Int32.toBitVec_inj.mp
  simp [Int32.toBitVec_sub, Int32.toBitVec_add]
theorem nI_div {a b : Nat} (ha : a < 2 ^ 31) (hb : b < 2 ^ 31) : nI a / nI b = nI (a / b) := by
  apply Int32.toInt_inj.mp
  have hd : a / b < 2 ^ 31 := Nat.lt_of_le_of_lt (Nat.div_le_self a b) ha
  rw [Int32.toInt_div, nI_toInt ha, nI_toInt hb, nI_toInt hd]
  rw [Int.tdiv_eq_ediv_of_nonneg (by omega), ← Int.natCast_ediv]
  have h2 : ((a / b : Nat) : Int) < ((2 ^ 31 : Nat) : Int) := Int.ofNat_lt.mpr hd
  have h3 : (0 : Int) ≤ ((a / b : Nat) : Int) := Int.natCast_nonneg _
  exact Int.bmod_eq_of_le (by omega) (by omega)
theorem nge {a b : Nat} (h : a < b) (hb : b < 2 ^ 31) : ¬ Int32.ofNat b ≤ nI a := nI_ge h hb
theorem gi {k N : Nat} (hk : k < N) (hN : N < 2 ^ 31) : ¬ (nI k < 0 ∨ N ≤ (nI k).toNatClampNeg) := nI_in hk hN
theorem gz {α : Type} {x : Int32} {k N : Nat} {a : Option α} (h : x = nI k) (hk : k < N) (hN : N < 2 ^ 31) : (if x < 0 ∨ N ≤ x.toNatClampNeg then none else a) = a := by rw [h, if_neg (gi hk hN)]
theorem cl {x : Int32} {k : Nat} (h : x = nI k) (hk : k < 2 ^ 31) : x.toNatClampNeg = k := by rw [h, nI_clamp hk]
theorem within_eq (x a b : Int32) : f_X10_within x a b = some (if a ≤ x ∧ x ≤ b then 1 else 0) := by
  unfold f_X10_within
  by_cases h1 : a ≤ x
  · by_cases h2 : x ≤ b
    · have h3 : ¬ x < a := Int32.not_lt.mpr h1
      have h4 : ¬ b < x := Int32.not_lt.mpr h2
      simp [h1, h2, h3, h4]
    · have h3 : ¬ x < a := Int32.not_lt.mpr h1
      have h4 : b < x := Int32.not_le.mp h2
      simp [h2, h3, h4]
  · have h3 : x < a := Int32.not_le.mp h1
    simp [h1, h3]
theorem in_eq (x a b : Int64) : f_X11_in x a b = some (if a ≤ x ∧ x ≤ b then 1 else 0) := by
  unfold f_X11_in
  simp only [lg_cmp_lt, lg_cmp_gt]
  by_cases h1 : a ≤ x
  · by_cases h2 : x ≤ b
    · have h3 : ¬ x < a := Int64.not_lt.mpr h1
      have h4 : ¬ b < x := Int64.not_lt.mpr h2
      simp [h1, h2, h3, h4]
    · have h3 : ¬ x < a := Int64.not_lt.mpr h1
      have h4 : b < x := Int64.not_le.mp h2
      simp [h2, h3, h4]
  · have h3 : x < a := Int64.not_le.mp h1
    simp [h1, h3]
theorem t64_le (x y : Int32) : x.toInt64 ≤ y.toInt64 ↔ x ≤ y := by
  rw [Int64.le_iff_toInt_le, Int32.le_iff_toInt_le, Int32.toInt_toInt64, Int32.toInt_toInt64]
theorem in32 {x : Int32} {la lb : Int64} (a b : Int32) (ha : la = a.toInt64) (hb : lb = b.toInt64) : f_X11_in x.toInt64 la lb = some (if a ≤ x ∧ x ≤ b then 1 else 0) := by
  simp only [in_eq, ha, hb, t64_le]
theorem inN_iff {x : Int32} {a b : Nat} (hb : b < 2 ^ 31) (hab : a ≤ b) : inN x a b ↔ nI a ≤ x ∧ x ≤ nI b := by
  constructor
  · rintro ⟨k, rfl, h1, h2⟩
    exact ⟨nI_le h1 (by omega), nI_le h2 hb⟩
  · rintro ⟨h1, h2⟩
    have h3 : ¬ x < 0 := by
      rw [Int32.lt_iff_toInt_lt, Int32.toInt_zero]
      rw [Int32.le_iff_toInt_le, nI_toInt (by omega)] at h1
      omega
    obtain ⟨j, hj, rfl⟩ := nI_of h3
    exact ⟨j, rfl, (nI_leI (by omega) hj).mp h1, (nI_leI hj hb).mp h2⟩
theorem inN.lt {x : Int32} {a b : Nat} (h : inN x a b) : ∃ k : Nat, x = nI k ∧ a ≤ k ∧ k ≤ b := h
/-- rows of tables, by their places -/
theorem ix {x y : Int32} {wd : Int32} {a c w : Nat} (hx : x = nI a) (hy : y = nI c) (hw : wd = nI w) : x * wd + y = nI (a * w + c) := by rw [hx, hy, hw, nI_mul, nI_add]
theorem num_at {wd : Int32} {N : Nat} {cells : Nat → Int64} {x y : Int32} (a c w : Nat) (hx : x = nI a) (hy : y = nI c) (hw : wd = nI w) (hk : a * w + c < N) (hN : N < 2 ^ 31) : f_X8_number wd N cells x y = some (cells (a * w + c)).toInt32 := by
  unfold f_X8_number
  rw [ix hx hy hw, if_neg (nI_pos (by omega)), if_neg (nge hk hN), if_neg (gi hk hN), nI_clamp (by omega)]
theorem get_at {wd : Int32} {N : Nat} {cells : Nat → Int64} {x y : Int32} (a c w : Nat) (hx : x = nI a) (hy : y = nI c) (hw : wd = nI w) (hk : a * w + c < N) (hN : N < 2 ^ 31) : f_X8_get wd N cells x y = some (cells (a * w + c)) := by
  unfold f_X8_get
  rw [ix hx hy hw, if_neg (nI_pos (by omega)), if_neg (nge hk hN), if_neg (gi hk hN), nI_clamp (by omega)]
theorem set_at {wd : Int32} {N : Nat} {cells : Nat → Int64} {x y : Int32} {v : Int64} (a c w : Nat) (hx : x = nI a) (hy : y = nI c) (hw : wd = nI w) (hk : a * w + c < N) (hN : N < 2 ^ 31) : f_X8_set wd N cells x y v = some (vp_updL cells (a * w + c) v) := by
  unfold f_X8_set
  rw [ix hx hy hw, if_neg (nI_pos (by omega)), if_neg (nge hk hN), if_neg (gi hk hN), nI_clamp (by omega)]
theorem at_eq {arr : Nat → Int32} {N k : Nat} {x : Int32} (hx : x = nI k) (hk : k < N) (hN : N < 2 ^ 31) : f_X10_at arr N x = some (arr k) := by
  unfold f_X10_at
  rw [hx, if_neg (nI_pos (by omega)), if_neg (nge hk hN), if_neg (gi hk hN), nI_clamp (by omega)]
theorem ats_eq {i k : Nat} {x : Int32} (hx : x = nI k) (hk : k < stN i) (hN : stN i < 2 ^ 31) : f_X10_at_s i x = some (stF i k) := by
  unfold f_X10_at_s
  rw [hx, if_neg (nI_pos (by omega)), if_neg (nge hk hN), if_neg (gi hk hN), nI_clamp (by omega)]
theorem holds_eq {rows : Int32} {M : Nat} (hr : rows = nI M) (hM : M < 2 ^ 31) (x : Int32) : f_X8_holds rows x = some (if 0 ≤ x ∧ x < rows then 1 else 0) := by
  unfold f_X8_holds
  by_cases h1 : x < 0
  · have h2 : ¬ 0 ≤ x := Int32.not_le.mpr h1
    simp [h1, h2]
  · have h2 : 0 ≤ x := Int32.not_lt.mp h1
    by_cases h3 : rows ≤ x
    · have h4 : ¬ x < rows := Int32.not_lt.mpr h3
      simp [h1, h3, h4]
    · have h4 : x < rows := Int32.not_le.mp h3
      simp [h1, h2, h3, h4]
/-- counted, told -/
theorem ct {bads noes fulls : Int32} {mr : Nat → Int32} (h : bads = mr 0 ∧ noes = mr 1 ∧ fulls = mr 2) (x : Int32) : ∃ (b n f : Int32) (m : Nat → Int32), f_X10_counted bads noes fulls x = some (x, b, n, f) ∧ f_X11_told mr x = some (x, m) ∧ (b = m 0 ∧ n = m 1 ∧ f = m 2) := by
  obtain ⟨rfl, rfl, rfl⟩ := h
  unfold f_X10_counted f_X11_told f_X11_told_B18
  by_cases h2 : x = -2
  · subst h2
    exact ⟨_, _, _, upd mr 0 (mr 0 + 1), rfl, rfl, by simp [upd]⟩
  · by_cases h3 : x = -3
    · subst h3
      exact ⟨_, _, _, upd mr 1 (mr 1 + 1), rfl, rfl, by simp [upd]⟩
    · by_cases h4 : x = -4
      · subst h4
        exact ⟨_, _, _, upd mr 2 (mr 2 + 1), rfl, rfl, by simp [upd]⟩
      · exact ⟨_, _, _, mr, by simp [h2, h3, h4], by simp [h2, h3, h4], rfl, rfl, rfl⟩
theorem ct10 {bads noes fulls : Int32} {mr : Nat → Int32} (h : bads = mr 0 ∧ noes = mr 1 ∧ fulls = mr 2) : ∃ (b n f : Int32) (m : Nat → Int32), f_X10_countedBadTen bads noes fulls = some (-10, b, n, f) ∧ f_X11_toldElse mr = some (-10, m) ∧ (b = m 0 ∧ n = m 1 ∧ f = m 2) := by
  obtain ⟨rfl, rfl, rfl⟩ := h
  exact ⟨_, _, _, upd mr 0 (mr 0 + 1), rfl, rfl, by simp [upd]⟩
