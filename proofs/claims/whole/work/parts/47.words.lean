/-! PURE 25: words -/
theorem nI64 {n : Nat} (h : n < 2 ^ 31) : (nI n).toInt64 = lN n := by
  apply Int64.toInt_inj.mp
  rw [Int32.toInt_toInt64, nI_toInt h, pk_lT (by omega)]
def wv (c : Nat → Nat) (s : Nat) : Nat → Nat
  | 0 => 0
  | k + 1 => 32 * wv c s k + (c (s + k) - 96)
theorem zL_iff {x : Nat} : zL x = true ↔ 97 ≤ x ∧ x ≤ 122 := by unfold zL; exact decide_eq_true_iff
theorem zF_iff {x : Nat} : zF x = true ↔ 48 ≤ x ∧ x ≤ 57 := by unfold zF; exact decide_eq_true_iff
theorem lv_wv {c : Nat → Nat} {s : Nat} : ∀ k, k ≤ 7 → (∀ j, j < k → zL (c (s + j)) = true) → lv7 c s k = lN (wv c s k) ∧ wv c s k < 32 ^ k := by
  intro k
  induction k with
  | zero => intro _ _; exact ⟨rfl, Nat.one_pos⟩
  | succ k ih =>
    intro hk hl
    obtain ⟨h1, h2⟩ := ih (by omega) (fun j hj => hl j (by omega))
    have hb := zL_iff.mp (hl k (by omega))
    constructor
    · rw [lv7, if_neg (by omega), h1, nI64 (by omega), show (32 : Int64) = lN 32 from rfl, show (96 : Int64) = lN 96 from rfl, lN_mul, lN_add, lN_sub (by omega), wv]
      congr 1; omega
    · rw [wv, Nat.pow_succ]; omega
theorem words5 {c : Nat → Nat} {s L : Nat} (h7 : L ≤ 7) (hl : ∀ j, j < L → zL (c (s + j)) = true) : (wv c s L = 15813 ↔ (L = 3 ∧ c (s + 0) = 111 ∧ c (s + 1) = 110 ∧ c (s + 2) = 101)) ∧ (wv c s L = 21081 ↔ (L = 3 ∧ c (s + 0) = 116 ∧ c (s + 1) = 114 ∧ c (s + 2) = 121)) ∧ (wv c s L = 1643 ↔ (L = 3 ∧ c (s + 0) = 97 ∧ c (s + 1) = 115 ∧ c (s + 2) = 107)) ∧ (wv c s L = 267845 ↔ (L = 4 ∧ c (s + 0) = 104 ∧ c (s + 1) = 101 ∧ c (s + 2) = 114 ∧ c (s + 3) = 101)) ∧ (wv c s L = 6336915 ↔ (L = 5 ∧ c (s + 0) = 102 ∧ c (s + 1) = 97 ∧ c (s + 2) = 108 ∧ c (s + 3) = 108 ∧ c (s + 4) = 115)) := by
  have b : ∀ j, j < L → 97 ≤ c (s + j) ∧ c (s + j) ≤ 122 := fun j hj => zL_iff.mp (hl j hj)
  have hL : L = 0 ∨ L = 1 ∨ L = 2 ∨ L = 3 ∨ L = 4 ∨ L = 5 ∨ L = 6 ∨ L = 7 := by omega
  rcases hL with rfl | rfl | rfl | rfl | rfl | rfl | rfl | rfl
  · have e : wv c s 0 = 0 := rfl
    rw [e]
    refine ⟨?_, ?_, ?_, ?_, ?_⟩ <;> omega
  · have e : wv c s 1 = 32 * (0) + (c (s + 0) - 96) := rfl
    have b0 := b 0 (by omega)
    rw [e]
    refine ⟨?_, ?_, ?_, ?_, ?_⟩ <;> omega
  · have e : wv c s 2 = 32 * (32 * (0) + (c (s + 0) - 96)) + (c (s + 1) - 96) := rfl
    have b0 := b 0 (by omega)
    have b1 := b 1 (by omega)
    rw [e]
    refine ⟨?_, ?_, ?_, ?_, ?_⟩ <;> omega
  · have e : wv c s 3 = 32 * (32 * (32 * (0) + (c (s + 0) - 96)) + (c (s + 1) - 96)) + (c (s + 2) - 96) := rfl
    have b0 := b 0 (by omega)
    have b1 := b 1 (by omega)
    have b2 := b 2 (by omega)
    rw [e]
    refine ⟨?_, ?_, ?_, ?_, ?_⟩ <;> omega
  · have e : wv c s 4 = 32 * (32 * (32 * (32 * (0) + (c (s + 0) - 96)) + (c (s + 1) - 96)) + (c (s + 2) - 96)) + (c (s + 3) - 96) := rfl
    have b0 := b 0 (by omega)
    have b1 := b 1 (by omega)
    have b2 := b 2 (by omega)
    have b3 := b 3 (by omega)
    rw [e]
    refine ⟨?_, ?_, ?_, ?_, ?_⟩ <;> omega
  · have e : wv c s 5 = 32 * (32 * (32 * (32 * (32 * (0) + (c (s + 0) - 96)) + (c (s + 1) - 96)) + (c (s + 2) - 96)) + (c (s + 3) - 96)) + (c (s + 4) - 96) := rfl
    have b0 := b 0 (by omega)
    have b1 := b 1 (by omega)
    have b2 := b 2 (by omega)
    have b3 := b 3 (by omega)
    have b4 := b 4 (by omega)
    rw [e]
    refine ⟨?_, ?_, ?_, ?_, ?_⟩ <;> omega
  · have e : wv c s 6 = 32 * (32 * (32 * (32 * (32 * (32 * (0) + (c (s + 0) - 96)) + (c (s + 1) - 96)) + (c (s + 2) - 96)) + (c (s + 3) - 96)) + (c (s + 4) - 96)) + (c (s + 5) - 96) := rfl
    have b0 := b 0 (by omega)
    have b1 := b 1 (by omega)
    have b2 := b 2 (by omega)
    have b3 := b 3 (by omega)
    have b4 := b 4 (by omega)
    have b5 := b 5 (by omega)
    rw [e]
    refine ⟨?_, ?_, ?_, ?_, ?_⟩ <;> omega
  · have e : wv c s 7 = 32 * (32 * (32 * (32 * (32 * (32 * (32 * (0) + (c (s + 0) - 96)) + (c (s + 1) - 96)) + (c (s + 2) - 96)) + (c (s + 3) - 96)) + (c (s + 4) - 96)) + (c (s + 5) - 96)) + (c (s + 6) - 96) := rfl
    have b0 := b 0 (by omega)
    have b1 := b 1 (by omega)
    have b2 := b 2 (by omega)
    have b3 := b 3 (by omega)
    have b4 := b 4 (by omega)
    have b5 := b 5 (by omega)
    have b6 := b 6 (by omega)
    rw [e]
    refine ⟨?_, ?_, ?_, ?_, ?_⟩ <;> omega
def wcs (w : Nat) : List Nat := if w = 0 then [111, 110, 101] else if w = 1 then [116, 114, 121] else if w = 2 then [97, 115, 107] else if w = 3 then [104, 101, 114, 101] else [102, 97, 108, 108, 115]
theorem wcs_l : ∀ w, w < 5 → f_J0_length_8abf5 w = some (nI (wcs w).length) := by decide +kernel
theorem wcs_c : ∀ w, w < 5 → ∀ k, k < (wcs w).length → f_J0_charAt_5068e w (nI k) = some (nI ((wcs w).getD k 0)) := by decide +kernel
theorem wcs_b : ∀ w, w < 5 → (wcs w).length ≤ 5 ∧ ∀ k, k < (wcs w).length → (wcs w).getD k 0 ≤ 255 := by decide +kernel
def wM (c : Nat → Nat) (s L w : Nat) : Bool := decide (L = (wcs w).length) && allF (fun k => decide (c (s + k) = (wcs w).getD k 0)) (wcs w).length 0
theorem wM_0 {c : Nat → Nat} {s L : Nat} : wM c s L 0 = true ↔ (L = 3 ∧ c (s + 0) = 111 ∧ c (s + 1) = 110 ∧ c (s + 2) = 101) := by
  show (decide (L = 3) && (decide (c (s + 0) = 111) && (decide (c (s + 1) = 110) && (decide (c (s + 2) = 101) && true)))) = true ↔ _
  simp only [Bool.and_eq_true, decide_eq_true_eq, and_true]
theorem wM_1 {c : Nat → Nat} {s L : Nat} : wM c s L 1 = true ↔ (L = 3 ∧ c (s + 0) = 116 ∧ c (s + 1) = 114 ∧ c (s + 2) = 121) := by
  show (decide (L = 3) && (decide (c (s + 0) = 116) && (decide (c (s + 1) = 114) && (decide (c (s + 2) = 121) && true)))) = true ↔ _
  simp only [Bool.and_eq_true, decide_eq_true_eq, and_true]
theorem wM_2 {c : Nat → Nat} {s L : Nat} : wM c s L 2 = true ↔ (L = 3 ∧ c (s + 0) = 97 ∧ c (s + 1) = 115 ∧ c (s + 2) = 107) := by
  show (decide (L = 3) && (decide (c (s + 0) = 97) && (decide (c (s + 1) = 115) && (decide (c (s + 2) = 107) && true)))) = true ↔ _
  simp only [Bool.and_eq_true, decide_eq_true_eq, and_true]
theorem wM_3 {c : Nat → Nat} {s L : Nat} : wM c s L 3 = true ↔ (L = 4 ∧ c (s + 0) = 104 ∧ c (s + 1) = 101 ∧ c (s + 2) = 114 ∧ c (s + 3) = 101) := by
  show (decide (L = 4) && (decide (c (s + 0) = 104) && (decide (c (s + 1) = 101) && (decide (c (s + 2) = 114) && (decide (c (s + 3) = 101) && true))))) = true ↔ _
  simp only [Bool.and_eq_true, decide_eq_true_eq, and_true]
theorem wM_4 {c : Nat → Nat} {s L : Nat} : wM c s L 4 = true ↔ (L = 5 ∧ c (s + 0) = 102 ∧ c (s + 1) = 97 ∧ c (s + 2) = 108 ∧ c (s + 3) = 108 ∧ c (s + 4) = 115) := by
  show (decide (L = 5) && (decide (c (s + 0) = 102) && (decide (c (s + 1) = 97) && (decide (c (s + 2) = 108) && (decide (c (s + 3) = 108) && (decide (c (s + 4) = 115) && true)))))) = true ↔ _
  simp only [Bool.and_eq_true, decide_eq_true_eq, and_true]
theorem iw24 {n : Nat} {tby mt : Nat → Int32} {c : Nat → Nat} (T : Txt n tby mt c) {w s e : Nat} (hw : w < 5) (hse : s + (wcs w).length = e) (hen : e ≤ n) : ∀ d fu k b, k + d = (wcs w).length → d < fu → f_X6_isWord_L24 w (nI n) tby (nI s) (nI e) fu (bI b) (nI k) = some (bI (b && allF (fun k => decide (c (s + k) = (wcs w).getD k 0)) d k)) := by
  have hn := T.1
  obtain ⟨hl, hc⟩ := wcs_b w hw
  intro d
  induction d with
  | zero =>
    intro fu k b hk hf
    obtain ⟨fu, rfl⟩ : ∃ m, fu = m + 1 := ⟨fu - 1, by omega⟩
    have ek : k = (wcs w).length := by omega
    rw [f_X6_isWord_L24, allF, wcs_l w hw, Option.bind_some, ek, if_pos (Int32.le_refl _), if_pos (bI_ok b), ite_self, Bool.and_true]
  | succ d ih =>
    intro fu k b hk hf
    obtain ⟨fu, rfl⟩ : ∃ m, fu = m + 1 := ⟨fu - 1, by omega⟩
    have f1 := ih fu (k + 1) true (by omega) (by omega)
    have f0 := ih fu (k + 1) false (by omega) (by omega)
    have f1 : f_X6_isWord_L24 w (nI n) tby (nI s) (nI e) fu (1 : Int32) (nI (k + 1)) = _ := f1
    have f0 : f_X6_isWord_L24 w (nI n) tby (nI s) (nI e) fu (0 : Int32) (nI (k + 1)) = _ := f0
    have hx := (T.2 (s + k) (by omega)).2.2
    have hy := hc k (by omega)
    rw [f_X6_isWord_L24, allF, wcs_l w hw, Option.bind_some, if_neg (nI_ge (a := k) (b := (wcs w).length) (by omega) (by omega)), nI_add, bA T (by omega), Option.bind_some, wcs_c w hw k (by omega), Option.bind_some]
    unfold f_X6_isWord_B62
    rw [nI_1, f1, f0]
    cases b
    · rw [if_pos (by rfl), if_pos (bI_ok _)] <;> rfl
    · rw [if_neg (by decide), Bool.true_and, Bool.true_and, Bool.false_and]
      by_cases q : c (s + k) = (wcs w).getD k 0
      · rw [if_pos (by rw [q]), decide_eq_true q, Bool.true_and]
      · rw [if_neg (fun z => q ((nI_eq (by omega) (by omega)).mp z)), decide_eq_false q, Bool.false_and]
theorem iw_eq {n : Nat} {tby mt : Nat → Int32} {c : Nat → Nat} (T : Txt n tby mt c) {w s e : Nat} (hw : w < 5) (hse : s ≤ e) (hen : e ≤ n) : f_X6_isWord w (nI n) tby (nI s) (nI e) = some (bI (wM c s (e - s) w)) := by
  have hn := T.1
  obtain ⟨hl, hc⟩ := wcs_b w hw
  unfold f_X6_isWord f_X6_isWord_B21 wM
  rw [wcs_l w hw, Option.bind_some, nI_sub hse]
  by_cases q : e - s = (wcs w).length
  · rw [if_pos (by rw [q]), decide_eq_true q]
    exact iw24 T hw (by omega) hen (wcs w).length FU 0 true (by omega) (FU1 (by omega))
  · rw [if_neg (fun z => q ((nI_eq (by omega) (by omega)).mp z)), decide_eq_false q, Bool.false_and]
    have key : ∀ y, 0 < y → f_X6_isWord_L24 w (nI n) tby (nI s) (nI e) y (0 : Int32) (0 : Int32) = some (bI false) := by
      intro y hy
      obtain ⟨y, rfl⟩ : ∃ m, y = m + 1 := ⟨y - 1, by omega⟩
      rw [f_X6_isWord_L24, if_pos rfl, if_pos (Or.inl rfl)] <;> rfl
    exact key FU (FU1 (by omega))
theorem lv_more {c : Nat → Nat} {s L : Nat} (h : 7 < L) : lv7 c s L = -1 := by
  obtain ⟨k, rfl⟩ : ∃ m, L = m + 1 := ⟨L - 1, by omega⟩
  rw [lv7, if_pos (by omega)]
theorem what_eq {n : Nat} {tby mt : Nat → Int32} {c : Nat → Nat} (T : Txt n tby mt c) {s e : Nat} (hse : s ≤ e) (hen : e ≤ n) (hl : ∀ j, s ≤ j → j < e → zL (c j) = true) : ∃ r : Int32, f_X6_whatItem (nI n) tby (nI s) (nI e) = some r ∧ f_X11_wordOf (lv7 c s (e - s)) = some r ∧ (r = -1 ∨ ∃ w, w < 5 ∧ r = nI w ∧ 3 ≤ e - s) := by
  have hl : ∀ j, j < e - s → zL (c (s + j)) = true := fun j hj => hl (s + j) (by omega) (by omega)
  generalize hL : e - s = L at hl ⊢
  have k0 : lg_cmp (lv7 c s L) (15813 : Int64) = 0 ↔ wM c s L 0 = true := by
    rw [lg_cmp_eq, wM_0]
    by_cases h7 : L ≤ 7
    · obtain ⟨v1, v2⟩ := lv_wv L h7 hl
      have v3 : wv c s L < 32 ^ 7 := Nat.lt_of_lt_of_le v2 (Nat.pow_le_pow_right (by decide) h7)
      rw [v1, show (15813 : Int64) = lN 15813 from rfl, pk_lEQ (by omega) (by decide)]
      exact (words5 h7 hl).1
    · rw [lv_more (by omega)]
      exact ⟨fun z => absurd z (by decide), fun z => absurd z.1 (by omega)⟩
  have k1 : lg_cmp (lv7 c s L) (21081 : Int64) = 0 ↔ wM c s L 1 = true := by
    rw [lg_cmp_eq, wM_1]
    by_cases h7 : L ≤ 7
    · obtain ⟨v1, v2⟩ := lv_wv L h7 hl
      have v3 : wv c s L < 32 ^ 7 := Nat.lt_of_lt_of_le v2 (Nat.pow_le_pow_right (by decide) h7)
      rw [v1, show (21081 : Int64) = lN 21081 from rfl, pk_lEQ (by omega) (by decide)]
      exact (words5 h7 hl).2.1
    · rw [lv_more (by omega)]
      exact ⟨fun z => absurd z (by decide), fun z => absurd z.1 (by omega)⟩
  have k2 : lg_cmp (lv7 c s L) (1643 : Int64) = 0 ↔ wM c s L 2 = true := by
    rw [lg_cmp_eq, wM_2]
    by_cases h7 : L ≤ 7
    · obtain ⟨v1, v2⟩ := lv_wv L h7 hl
      have v3 : wv c s L < 32 ^ 7 := Nat.lt_of_lt_of_le v2 (Nat.pow_le_pow_right (by decide) h7)
      rw [v1, show (1643 : Int64) = lN 1643 from rfl, pk_lEQ (by omega) (by decide)]
      exact (words5 h7 hl).2.2.1
    · rw [lv_more (by omega)]
      exact ⟨fun z => absurd z (by decide), fun z => absurd z.1 (by omega)⟩
  have k3 : lg_cmp (lv7 c s L) (267845 : Int64) = 0 ↔ wM c s L 3 = true := by
    rw [lg_cmp_eq, wM_3]
    by_cases h7 : L ≤ 7
    · obtain ⟨v1, v2⟩ := lv_wv L h7 hl
      have v3 : wv c s L < 32 ^ 7 := Nat.lt_of_lt_of_le v2 (Nat.pow_le_pow_right (by decide) h7)
      rw [v1, show (267845 : Int64) = lN 267845 from rfl, pk_lEQ (by omega) (by decide)]
      exact (words5 h7 hl).2.2.2.1
    · rw [lv_more (by omega)]
      exact ⟨fun z => absurd z (by decide), fun z => absurd z.1 (by omega)⟩
  have k4 : lg_cmp (lv7 c s L) (6336915 : Int64) = 0 ↔ wM c s L 4 = true := by
    rw [lg_cmp_eq, wM_4]
    by_cases h7 : L ≤ 7
    · obtain ⟨v1, v2⟩ := lv_wv L h7 hl
      have v3 : wv c s L < 32 ^ 7 := Nat.lt_of_lt_of_le v2 (Nat.pow_le_pow_right (by decide) h7)
      rw [v1, show (6336915 : Int64) = lN 6336915 from rfl, pk_lEQ (by omega) (by decide)]
      exact (words5 h7 hl).2.2.2.2
    · rw [lv_more (by omega)]
      exact ⟨fun z => absurd z (by decide), fun z => absurd z.1 (by omega)⟩
  unfold f_X6_whatItem f_X11_wordOf
  rw [iw_eq T (w := 0) (by decide) hse hen, iw_eq T (w := 1) (by decide) hse hen, iw_eq T (w := 2) (by decide) hse hen, iw_eq T (w := 3) (by decide) hse hen, iw_eq T (w := 4) (by decide) hse hen, hL]
  simp only [Option.bind_some, k0, k1, k2, k3, k4, bI0]
  cases m0 : wM c s L 0
  · cases m1 : wM c s L 1
    · cases m2 : wM c s L 2
      · cases m3 : wM c s L 3
        · cases m4 : wM c s L 4
          · simp only [eq_self, Bool.false_eq_true, if_false, if_true]
            exact ⟨-1, rfl, rfl, Or.inl rfl⟩
          · simp only [eq_self, Bool.false_eq_true, Bool.true_eq_false, if_false, if_true]
            exact ⟨nI 4, rfl, rfl, Or.inr ⟨4, by decide, rfl, by have := wM_4.mp m4; omega⟩⟩
        · simp only [eq_self, Bool.false_eq_true, Bool.true_eq_false, if_false, if_true]
          exact ⟨nI 3, rfl, rfl, Or.inr ⟨3, by decide, rfl, by have := wM_3.mp m3; omega⟩⟩
      · simp only [eq_self, Bool.false_eq_true, Bool.true_eq_false, if_false, if_true]
        exact ⟨nI 2, rfl, rfl, Or.inr ⟨2, by decide, rfl, by have := wM_2.mp m2; omega⟩⟩
    · simp only [eq_self, Bool.false_eq_true, Bool.true_eq_false, if_false, if_true]
      exact ⟨nI 1, rfl, rfl, Or.inr ⟨1, by decide, rfl, by have := wM_1.mp m1; omega⟩⟩
  · simp only [eq_self, Bool.false_eq_true, Bool.true_eq_false, if_false, if_true]
    exact ⟨nI 0, rfl, rfl, Or.inr ⟨0, by decide, rfl, by have := wM_0.mp m0; omega⟩⟩
