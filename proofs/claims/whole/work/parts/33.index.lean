/-! PURE 11: told apart, taken for -/
theorem ones_k : ∀ k, k < 32 → f_J6_bitCount_0f7a4 (nI k) = f_X11_ones (nI k) := by decide +kernel
theorem ones_n : ∀ k, k < 32 → ∃ j, f_X11_ones (nI k) = some j := by
  intro k hk
  rw [← ones_k k hk]
  exact ⟨_, rfl⟩
def alk (w : Nat → Int32) (nm : Nat → Int64) (S p q : Nat) : Bool := allF (fun c => !S.testBit c || decide (pN w nm p c = pN w nm q c)) 5 0
theorem alk_sym (w : Nat → Int32) (nm : Nat → Int64) (S p q : Nat) : alk w nm S p q = alk w nm S q p := by
  unfold alk
  congr 1
  funext c
  congr 1
  exact decide_eq_decide.mpr ⟨Eq.symm, Eq.symm⟩
theorem allF_iff (f : Nat → Bool) : ∀ d k, allF f d k = true ↔ ∀ i, k ≤ i → i < k + d → f i = true := by
  intro d
  induction d with
  | zero => intro k; exact ⟨fun _ i h1 h2 => absurd h2 (by omega), fun _ => rfl⟩
  | succ d ih =>
    intro k
    rw [allF, Bool.and_eq_true, ih]
    constructor
    · intro ⟨a, b⟩ i h1 h2
      by_cases q : i = k
      · rw [q]; exact a
      · exact b i (by omega) (by omega)
    · intro h
      exact ⟨h k (by omega) (by omega), fun i h1 h2 => h i (by omega) (by omega)⟩
theorem n5k {k : Nat} (h : k < 5) : ¬ (5 : Int32) ≤ nI k := nI_ge (a := k) (b := 5) h (by decide)
theorem alkC {v : HallV} {w : Nat → Int32} {nm : Nat → Int64} {M S p q : Nat} (P : Ppl v w nm M) (hS : S < 32) (hp : p < M) (hq : q < M) : ∀ d fu k b, d + k = 5 → d < fu → f_X4_allAlike_L6 v fu (nI p) (nI q) (nI S) (bI b) (nI k) = some (bI (b && allF (fun c => !S.testBit c || decide (pN w nm p c = pN w nm q c)) d k)) := by
  intro d
  induction d with
  | zero =>
    intro fu k b hd hf
    obtain ⟨fu, rfl⟩ : ∃ m, fu = m + 1 := ⟨fu - 1, by omega⟩
    have e : k = 5 := by omega
    subst e
    rw [f_X4_allAlike_L6, allF]
    cases b
    · rw [if_pos (by rfl), if_pos (by decide)]; rfl
    · rw [if_neg (by decide), if_pos (by decide), if_pos (by decide)]; rfl
  | succ d ih =>
    intro fu k b hd hf
    obtain ⟨fu, rfl⟩ : ∃ m, fu = m + 1 := ⟨fu - 1, by omega⟩
    have f1 := ih fu (k + 1) true (by omega) (by omega)
    have f0 := ih fu (k + 1) false (by omega) (by omega)
    have f1 : f_X4_allAlike_L6 v fu (nI p) (nI q) (nI S) (1 : Int32) (nI (k + 1)) = _ := f1
    have f0 : f_X4_allAlike_L6 v fu (nI p) (nI q) (nI S) (0 : Int32) (nI (k + 1)) = _ := f0
    rw [f_X4_allAlike_L6, allF]
    cases b
    · rw [if_pos (by rfl), if_pos (by decide)]; rfl
    · rw [if_neg (by decide), if_neg (n5k (by omega)), (isIn_eq (a := S) (by omega) (by omega)).1, Option.bind_some, P.pc p hp k (by omega), P.pc q hq k (by omega), Option.bind_some, Option.bind_some]
      simp only [ite01]
      unfold f_X4_allAlike_B43 f_X4_allAlike_B48
      rw [nI_1, f1, f0]
      have b1 := P.pb p hp k (by omega)
      have b2 := P.pb q hq k (by omega)
      have l : nI (pN w nm p k) = nI (pN w nm q k) ↔ pN w nm p k = pN w nm q k := nI_eq (by omega) (by omega)
      simp only [l, Bool.true_and, Bool.false_and]
      cases h : S.testBit k
      · simp
      · by_cases e : pN w nm p k = pN w nm q k
        · simp [e]
        · simp [e]
theorem alk_eq {v : HallV} {w : Nat → Int32} {nm : Nat → Int64} {M S p q : Nat} (P : Ppl v w nm M) (hS : S < 32) (hp : p < M) (hq : q < M) : f_X4_allAlike v (nI p) (nI q) (nI S) = some (bI (alk w nm S p q)) := alkC P hS hp hq 5 FU 0 true (by omega) (FU1 (by omega))
theorem tacI {v : HallV} {w : Nat → Int32} {nm : Nat → Int64} {M S p : Nat} {r : Int32 → Int32 → Int32 → Option Int32} (P : Ppl v w nm M) (hS : S < 32) (hp : p < M) : ∀ d fu k b, d + k = M → d < fu → f_X4_tellsAllApart_L24 v r fu (nI S) (bI b) (nI p) (nI k) = r (nI S) (bI (b && allF (fun q => !alk w nm S p q) d k)) (nI (p + 1)) := by
  have hM := P.m12
  intro d
  induction d with
  | zero =>
    intro fu k b hd hf
    obtain ⟨fu, rfl⟩ : ∃ m, fu = m + 1 := ⟨fu - 1, by omega⟩
    have e : k = M := by omega
    subst e
    rw [f_X4_tellsAllApart_L24, allF, f_X8_size, Option.bind_some, P.a1, if_pos (Int32.le_refl _)]
    unfold f_X4_tellsAllApart_B63
    rw [nI_1, Bool.and_true, ite_self]
  | succ d ih =>
    intro fu k b hd hf
    obtain ⟨fu, rfl⟩ : ∃ m, fu = m + 1 := ⟨fu - 1, by omega⟩
    have f1 := ih fu (k + 1) true (by omega) (by omega)
    have f0 := ih fu (k + 1) false (by omega) (by omega)
    have f1 : f_X4_tellsAllApart_L24 v r fu (nI S) (1 : Int32) (nI p) (nI (k + 1)) = _ := f1
    have f0 : f_X4_tellsAllApart_L24 v r fu (nI S) (0 : Int32) (nI p) (nI (k + 1)) = _ := f0
    rw [f_X4_tellsAllApart_L24, allF, f_X8_size, Option.bind_some, P.a1, if_neg (nI_ge (a := k) (b := M) (by omega) (by omega)), alk_eq P hS hp (by omega), Option.bind_some]
    unfold f_X4_tellsAllApart_B63 f_X4_tellsAllApart_B56
    rw [nI_1, nI_1, f1, f0]
    cases b
    · rw [if_pos (by rfl)]; rfl
    · rw [if_neg (by decide)]
      cases h : alk w nm S p k
      · rw [if_pos (by rfl)]; rfl
      · rw [if_neg (by decide)]; rfl
theorem tacO {v : HallV} {w : Nat → Int32} {nm : Nat → Int64} {M S : Nat} (P : Ppl v w nm M) (hS : S < 32) : ∀ d fu k b, d + k = M → d < fu → f_X4_tellsAllApart_L4 v fu (nI S) (bI b) (nI k) = some (bI (b && allF (fun p => allF (fun q => !alk w nm S p q) (M - (p + 1)) (p + 1)) d k)) := by
  have hM := P.m12
  intro d
  induction d with
  | zero =>
    intro fu k b hd hf
    obtain ⟨fu, rfl⟩ : ∃ m, fu = m + 1 := ⟨fu - 1, by omega⟩
    have e : k = M := by omega
    subst e
    rw [f_X4_tellsAllApart_L4, allF, f_X8_size, Option.bind_some, P.a1, if_pos (Int32.le_refl _), ite_self, if_pos (by cases b <;> decide), Bool.and_true]
  | succ d ih =>
    intro fu k b hd hf
    obtain ⟨fu, rfl⟩ : ∃ m, fu = m + 1 := ⟨fu - 1, by omega⟩
    rw [f_X4_tellsAllApart_L4, allF, f_X8_size, Option.bind_some, P.a1, if_neg (nI_ge (a := k) (b := M) (by omega) (by omega))]
    cases b
    · rw [if_pos (by rfl), if_pos (by decide)]; rfl
    · rw [if_neg (by decide), nI_1, tacI P hS (by omega) (M - (k + 1)) FU (k + 1) true (by omega) (FU1 (by omega)), ih fu (k + 1) _ (by omega) (by omega), Bool.true_and, Bool.true_and]
theorem artI {v : HallV} {w : Nat → Int32} {nm : Nat → Int64} {M S p q : Nat} {r2 : Int32 → Int32 → Option Int32} {r14 : Int32 → Int32 → Int32 → Option Int32} (P : Ppl v w nm M) (hS : S < 32) (hp : p < M) (hq : q < M) : ∀ d fu k b, d + k = 5 → d < fu → f_X11_areTold_L25 w nm r2 r14 fu (nI S) (nI p) (nI q) (bI b) (nI k) = if (b && allF (fun c => !S.testBit c || decide (pN w nm p c = pN w nm q c)) d k) = true then some 0 else r14 (nI S) (nI p) (nI (q + 1)) := by
  intro d
  induction d with
  | zero =>
    intro fu k b hd hf
    obtain ⟨fu, rfl⟩ : ∃ m, fu = m + 1 := ⟨fu - 1, by omega⟩
    have e : k = 5 := by omega
    subst e
    rw [f_X11_areTold_L25, allF, if_pos (by decide), nI_1, Bool.and_true]
    cases b
    · rw [if_pos (by rfl), if_neg (by decide)]
    · rw [if_neg (by decide), if_pos (by decide)]
  | succ d ih =>
    intro fu k b hd hf
    obtain ⟨fu, rfl⟩ : ∃ m, fu = m + 1 := ⟨fu - 1, by omega⟩
    have f1 := ih fu (k + 1) true (by omega) (by omega)
    have f0 := ih fu (k + 1) false (by omega) (by omega)
    have f1 : f_X11_areTold_L25 w nm r2 r14 fu (nI S) (nI p) (nI q) (1 : Int32) (nI (k + 1)) = _ := f1
    have f0 : f_X11_areTold_L25 w nm r2 r14 fu (nI S) (nI p) (nI q) (0 : Int32) (nI (k + 1)) = _ := f0
    rw [f_X11_areTold_L25, allF, if_neg (n5k (by omega)), (isIn_eq (a := S) (by omega) (by omega)).2, Option.bind_some, P.pm p hp k (by omega), P.pm q hq k (by omega), Option.bind_some, Option.bind_some]
    unfold f_X11_areTold_B66 f_X11_areTold_B62 f_X11_areTold_B67
    rw [nI_1, f1, f0]
    simp only [ite01]
    have b1 := P.pb p hp k (by omega)
    have b2 := P.pb q hq k (by omega)
    have l : nI (pN w nm p k) = nI (pN w nm q k) ↔ pN w nm p k = pN w nm q k := nI_eq (by omega) (by omega)
    simp only [l]
    cases b
    · rw [if_pos (by rfl)]; simp
    · rw [if_neg (by decide)]
      cases h : S.testBit k
      · simp
      · by_cases e : pN w nm p k = pN w nm q k
        · simp [e]
        · simp [e]
theorem artM {v : HallV} {w : Nat → Int32} {nm : Nat → Int64} {M S p : Nat} {r2 : Int32 → Int32 → Option Int32} (P : Ppl v w nm M) (hS : S < 32) (hp : p < M) : ∀ d fu k, d + k = p → d < fu → f_X11_areTold_L14 w nm r2 fu (nI S) (nI p) (nI k) = if allF (fun q => !alk w nm S p q) d k = true then r2 (nI S) (nI (p + 1)) else some 0 := by
  have hM := P.m12
  intro d
  induction d with
  | zero =>
    intro fu k hd hf
    obtain ⟨fu, rfl⟩ : ∃ m, fu = m + 1 := ⟨fu - 1, by omega⟩
    have e : k = p := by omega
    subst e
    rw [f_X11_areTold_L14, allF, if_pos (Int32.le_refl _), nI_1, if_pos rfl]
  | succ d ih =>
    intro fu k hd hf
    obtain ⟨fu, rfl⟩ : ∃ m, fu = m + 1 := ⟨fu - 1, by omega⟩
    have L := artI (r2 := r2) (r14 := f_X11_areTold_L14 w nm r2 fu) P hS hp (q := k) (by omega) 5 FU 0 true (by omega) (FU1 (by omega))
    have L : f_X11_areTold_L25 w nm r2 (f_X11_areTold_L14 w nm r2 fu) FU (nI S) (nI p) (nI k) (1 : Int32) (0 : Int32) = if (alk w nm S p k) = true then some 0 else _ := L
    rw [f_X11_areTold_L14, allF, if_neg (nI_ge (a := k) (b := p) (by omega) (by omega)), L, ih fu (k + 1) (by omega) (by omega)]
    cases h : alk w nm S p k
    · simp
    · simp
theorem artO {v : HallV} {w : Nat → Int32} {nm : Nat → Int64} {M S : Nat} (P : Ppl v w nm M) (hS : S < 32) : ∀ d fu k, d + k = M → d < fu → f_X11_areTold_L2 w nm fu (nI S) (nI k) = some (bI (allF (fun p => allF (fun q => !alk w nm S p q) p 0) d k)) := by
  have hM := P.m12
  intro d
  induction d with
  | zero =>
    intro fu k hd hf
    obtain ⟨fu, rfl⟩ : ∃ m, fu = m + 1 := ⟨fu - 1, by omega⟩
    have e : k = M := by omega
    subst e
    rw [f_X11_areTold_L2, allF, if_neg k0.1, k0.2.1, P.a2, if_pos (Int32.le_refl _)]; rfl
  | succ d ih =>
    intro fu k hd hf
    obtain ⟨fu, rfl⟩ : ∃ m, fu = m + 1 := ⟨fu - 1, by omega⟩
    have L := artM (r2 := f_X11_areTold_L2 w nm fu) P hS (p := k) (by omega) k FU 0 (by omega) (FU1 (by omega))
    have L : f_X11_areTold_L14 w nm (f_X11_areTold_L2 w nm fu) FU (nI S) (nI k) (0 : Int32) = _ := L
    rw [f_X11_areTold_L2, allF, if_neg k0.1, k0.2.1, P.a2, if_neg (nI_ge (a := k) (b := M) (by omega) (by omega)), L, ih fu (k + 1) (by omega) (by omega)]
    cases h : allF (fun q => !alk w nm S k q) k 0
    · rw [if_neg (by decide)]; rfl
    · rw [if_pos rfl]; rfl
theorem told_eq {v : HallV} {w : Nat → Int32} {nm : Nat → Int64} {M S : Nat} (P : Ppl v w nm M) (hS : S < 32) : ∃ b : Bool, f_X4_tellsAllApart v (nI S) = some (bI b) ∧ f_X11_areTold w nm (nI S) = some (bI b) := by
  have hM := P.m12
  have h1 := tacO P hS M FU 0 true (by omega) (FU1 (by omega))
  have h2 := artO P hS M FU 0 (by omega) (FU1 (by omega))
  refine ⟨_, h1, h2.trans ?_⟩
  congr 2
  rw [Bool.true_and]
  apply Bool.eq_iff_iff.mpr
  rw [allF_iff, allF_iff]
  constructor
  · intro h p _ hp
    rw [allF_iff]
    intro q h1 h2
    have := h q (by omega) (by omega)
    rw [allF_iff] at this
    have := this p (by omega) (by omega)
    rw [alk_sym]; exact this
  · intro h p _ hp
    rw [allF_iff]
    intro q h1 h2
    have := h q (by omega) (by omega)
    rw [allF_iff] at this
    have := this p (by omega) (by omega)
    rw [alk_sym]; exact this
theorem idx_L {v : HallV} {w : Nat → Int32} {nm : Nat → Int64} {M : Nat} (P : Ppl v w nm M) : ∀ d fu fu' k x, d + k = 32 → d < fu → d < fu' → (x = -1 ∨ ∃ j, j < 32 ∧ x = nI j) → ∃ r, f_X4_fewestApart_L4 v fu x (nI k) = some r ∧ f_X11_index_L4 w nm fu' x (nI k) = some r := by
  intro d
  induction d with
  | zero =>
    intro fu fu' k x hd hf hf' _
    obtain ⟨fu, rfl⟩ : ∃ m, fu = m + 1 := ⟨fu - 1, by omega⟩
    obtain ⟨fu', rfl⟩ : ∃ m, fu' = m + 1 := ⟨fu' - 1, by omega⟩
    have e : k = 32 := by omega
    subst e
    exact ⟨x, by rw [f_X4_fewestApart_L4, if_pos (by decide)], by rw [f_X11_index_L4, if_pos (by decide)]⟩
  | succ d ih =>
    intro fu fu' k x hd hf hf' hx
    obtain ⟨fu, rfl⟩ : ∃ m, fu = m + 1 := ⟨fu - 1, by omega⟩
    obtain ⟨fu', rfl⟩ : ∃ m, fu' = m + 1 := ⟨fu' - 1, by omega⟩
    have n32 : ¬ (32 : Int32) ≤ nI k := nI_ge (a := k) (b := 32) (by omega) (by decide)
    obtain ⟨b, t1, t2⟩ := told_eq P (S := k) (by omega)
    have ex := ih fu fu' (k + 1) x (by omega) (by omega) (by omega) hx
    have ek := ih fu fu' (k + 1) (nI k) (by omega) (by omega) (by omega) (Or.inr ⟨k, by omega, rfl⟩)
    have tk : ∃ r, f_X4_fewestApart_B26 v (f_X4_fewestApart_L4 v fu) x (nI k) = some r ∧ f_X11_index_B26 w nm (f_X11_index_L4 w nm fu') x (nI k) = some r := by
      unfold f_X4_fewestApart_B26 f_X4_fewestApart_B31 f_X4_fewestApart_B46 f_X11_index_B26 f_X11_index_B38 f_X11_index_B39
      rw [if_neg (by decide), t1, t2, Option.bind_some, Option.bind_some, nI_1]
      cases b
      · rw [if_pos (by rfl), if_pos (by rfl)]; exact ex
      · rw [if_neg (by decide), if_neg (by decide)]; exact ek
    rw [f_X4_fewestApart_L4, if_neg n32, f_X11_index_L4, if_neg n32]
    rcases hx with rfl | ⟨j, hj, rfl⟩
    · rw [if_pos rfl, if_pos rfl]; exact tk
    · have nj : ¬ nI j = -1 := fun z => nI_pos (n := j) (by omega) (by rw [z]; decide)
      obtain ⟨c1, o1⟩ := ones_n k (by omega)
      obtain ⟨c2, o2⟩ := ones_n j hj
      rw [if_neg nj, if_neg nj, ones_k k (by omega), ones_k j hj, o1, o2, Option.bind_some, Option.bind_some, Option.bind_some, Option.bind_some]
      by_cases q : c2 ≤ c1
      · rw [if_pos q, if_pos q]
        unfold f_X4_fewestApart_B31 f_X4_fewestApart_B46 f_X11_index_B38 f_X11_index_B39
        rw [if_pos rfl, nI_1]; exact ex
      · rw [if_neg q, if_neg q]; exact tk
/-- one taken for another -/
theorem sumN_rev (f : Nat → Nat) : ∀ n, sumN (fun i => f (n - 1 - i)) n = sumN f n := by
  have h0 : ∀ (g : Nat → Nat) n, sumN g (n + 1) = g 0 + sumN (fun i => g (i + 1)) n := by
    intro g n
    induction n with
    | zero => simp [sumN]
    | succ n ih => rw [sumN, ih, sumN]; omega
  intro n
  induction n with
  | zero => rfl
  | succ n ih =>
    rw [h0]
    have e : sumN (fun i => f (n + 1 - 1 - (i + 1))) n = sumN (fun i => f (n - 1 - i)) n := sumN_c n (fun i hi => by congr 1; omega)
    rw [e, ih, sumN, show n + 1 - 1 - 0 = n from by omega]; omega
def dif (n m i : Nat) : Nat := if n / 32 ^ i % 32 = m / 32 ^ i % 32 then 0 else 1
theorem unl_L {x y : Int64} {n m : Nat} (hx : ∀ i, i < 7 → f_X2_letterFromEnd x (nI i) = some (nI (n / 32 ^ i % 32))) (hy : ∀ i, i < 7 → f_X2_letterFromEnd y (nI i) = some (nI (m / 32 ^ i % 32))) : ∀ d fu k, d + k = 7 → d < fu → f_X2_unlikePlaces_L6 fu x y (nI (sumN (dif n m) k)) (nI k) = some (nI (sumN (dif n m) 7)) := by
  intro d
  induction d with
  | zero =>
    intro fu k hd hf
    obtain ⟨fu, rfl⟩ : ∃ m, fu = m + 1 := ⟨fu - 1, by omega⟩
    have e : k = 7 := by omega
    subst e
    rw [f_X2_unlikePlaces_L6, if_pos (by decide)]
  | succ d ih =>
    intro fu k hd hf
    obtain ⟨fu, rfl⟩ : ∃ m, fu = m + 1 := ⟨fu - 1, by omega⟩
    have e1 := ih fu (k + 1) (by omega) (by omega)
    rw [sumN] at e1
    rw [f_X2_unlikePlaces_L6, if_neg (n7 (by omega)), hx k (by omega), hy k (by omega), Option.bind_some, Option.bind_some]
    unfold f_X2_unlikePlaces_B31
    rw [nI_1, nI_1]
    have b1 : n / 32 ^ k % 32 < 32 := Nat.mod_lt _ (by decide)
    have b2 : m / 32 ^ k % 32 < 32 := Nat.mod_lt _ (by decide)
    by_cases q : n / 32 ^ k % 32 = m / 32 ^ k % 32
    · rw [if_pos (by rw [q])]
      rw [dif, if_pos q] at e1
      exact e1
    · rw [if_neg (fun z => q ((nI_eq (by omega) (by omega)).mp z))]
      rw [dif, if_neg q] at e1
      exact e1
theorem atf_L {w : Nat → Int64} {p q n m L : Nat} {lim : Nat} (hp : p < 96) (hq : q < 96) (hL : L ≤ 7) (hlim : lim ≤ 7) (hx : ∀ i, i < L → f_X11_letterOf (w p) (nI i) = some (nI (n / 32 ^ (L - 1 - i) % 32))) (hy : ∀ i, i < L → f_X11_letterOf (w q) (nI i) = some (nI (m / 32 ^ (L - 1 - i) % 32))) : ∀ d fu k, d + k = L → d < fu → f_X11_areTakenFor_L33 w fu (nI p) (nI q) (nI lim) (nI L) (nI (sumN (fun i => dif n m (L - 1 - i)) k)) (nI k) = some (if lim < sumN (dif n m) L then 0 else 1) := by
  intro d
  induction d with
  | zero =>
    intro fu k hd hf
    obtain ⟨fu, rfl⟩ : ∃ m, fu = m + 1 := ⟨fu - 1, by omega⟩
    have e : k = L := by omega
    subst e
    have hb : sumN (dif n m) k ≤ 7 := by
      have := sumN_le (dif n m) 1 k (fun i _ => by unfold dif; split <;> omega)
      omega
    rw [f_X11_areTakenFor_L33, if_pos (Int32.le_refl _), sumN_rev]
    by_cases q : lim < sumN (dif n m) k
    · rw [if_pos (nI_lt q (by omega)), if_pos q]
    · rw [if_neg (fun z => q ((nI_ltI (by omega) (by omega)).mp z)), if_neg q]
  | succ d ih =>
    intro fu k hd hf
    obtain ⟨fu, rfl⟩ : ∃ m, fu = m + 1 := ⟨fu - 1, by omega⟩
    have e1 := ih fu (k + 1) (by omega) (by omega)
    rw [sumN] at e1
    rw [f_X11_areTakenFor_L33, if_neg (nI_ge (a := k) (b := L) (by omega) (by omega)), gg (by omega) (by omega), nI_clamp (by omega), hx k (by omega), Option.bind_some, gg (by omega) (by omega), nI_clamp (by omega), hy k (by omega), Option.bind_some]
    unfold f_X11_areTakenFor_B72
    rw [nI_1, Int32.add_zero, nI_1]
    have b1 : n / 32 ^ (L - 1 - k) % 32 < 32 := Nat.mod_lt _ (by decide)
    have b2 : m / 32 ^ (L - 1 - k) % 32 < 32 := Nat.mod_lt _ (by decide)
    by_cases q : n / 32 ^ (L - 1 - k) % 32 = m / 32 ^ (L - 1 - k) % 32
    · rw [if_pos (by rw [q])]
      rw [dif, if_pos q] at e1
      exact e1
    · rw [if_neg (fun z => q ((nI_eq (by omega) (by omega)).mp z))]
      rw [dif, if_neg q] at e1
      exact e1
theorem tak_eq {v : HallV} {w : Nat → Int32} {nm : Nat → Int64} {M p q lim : Nat} (h : HRel v w nm 0 0) (hM : v.1 0 = nI M) (hM12 : M ≤ 12) (hp : p < M) (hq : q < M) (hlim : lim ≤ 7) : ∃ r : Int32, f_X4_isTaken v (nI p) (nI q) (nI lim) = some r ∧ f_X11_areTakenFor nm (nI p) (nI q) (nI lim) = some r := by
  obtain ⟨M', T, K, ⟨hM', hT, hK⟩, ⟨a1, a2⟩, -, -, -, hP, -⟩ := id h
  have e : M' = M := (nI_eq (by omega) (by omega)).mp (a1.symm.trans hM)
  subst e
  have names : ∀ p, p < M' → f_X8_get (7 : Int32) 84 (v.2.1 0) (nI p) (0 : Int32) = some (nm p) ∧ nameOk (nm p) := fun p hpM => by
    have := hP p hpM
    unfold PRel at this
    simp only [Nat.zero_add] at this
    exact ⟨by rw [get_at (wd := 7) (N := 84) (x := nI p) (y := 0) p 0 7 rfl rfl rfl (by omega) (by decide), this.1], this.2.1⟩
  obtain ⟨g1, o1⟩ := names p hp
  obtain ⟨g2, o2⟩ := names q hq
  obtain ⟨n, L, _, hL1, hL7, hn7, hnL, l1, l2, l3, l4, l5⟩ := nm_facts o1
  obtain ⟨m, L', _, hL1', hL7', hm7, hmL, m1, m2, m3, m4, m5⟩ := nm_facts o2
  have u := unl_L l3 m3 7 FU 0 (by omega) (FU1 (by omega))
  have u : f_X2_unlikePlaces (nm p) (nm q) = some (nI (sumN (dif n m) 7)) := u
  unfold f_X4_isTaken f_X11_areTakenFor
  rw [g1, Option.bind_some, g2, Option.bind_some, l1, Option.bind_some, m1, Option.bind_some, u, Option.bind_some, gg (by omega) (by omega), nI_clamp (by omega), l2, Option.bind_some, gg (by omega) (by omega), nI_clamp (by omega), m2, Option.bind_some]
  by_cases e : L = L'
  · subst e
    rw [if_pos rfl, if_pos rfl]
    have z : ∀ i, L ≤ i → dif n m i = 0 := fun i hi => by
      have h32 : 32 ^ L ≤ 32 ^ i := Nat.pow_le_pow_right (by decide) hi
      have z1 : n / 32 ^ i = 0 := Nat.div_eq_of_lt (by omega)
      have z2 : m / 32 ^ i = 0 := Nat.div_eq_of_lt (by omega)
      unfold dif
      rw [z1, z2, if_pos rfl]
    have s7 := sumN_ext (f := dif n m) (M := L) 7 hL7 z
    have at' := atf_L (w := nm) (p := p) (q := q) (n := n) (m := m) (lim := lim) (by omega) (by omega) hL7 hlim l4 m4 L FU 0 (by omega) (FU1 (by omega))
    have at' : f_X11_areTakenFor_L33 nm FU (nI p) (nI q) (nI lim) (nI L) (0 : Int32) (0 : Int32) = _ := at'
    have hb : sumN (dif n m) L ≤ 7 := by
      have := sumN_le (dif n m) 1 L (fun i _ => by unfold dif; split <;> omega)
      omega
    rw [at', s7]
    refine ⟨_, ?_, rfl⟩
    by_cases y : lim < sumN (dif n m) L
    · rw [if_pos (nI_lt y (by omega)), if_pos y]
    · rw [if_neg (fun z => y ((nI_ltI (by omega) (by omega)).mp z)), if_neg y]
  · have e2 : ¬ nI L = nI L' := fun z => e ((nI_eq (by omega) (by omega)).mp z)
    rw [if_neg e2, if_neg e2]
    exact ⟨0, rfl, rfl⟩
theorem tkI {v : HallV} {w : Nat → Int32} {nm : Nat → Int64} {M p lim : Nat} {mr : Nat → Int32} {x2 : Int32} {rC : Int32 → Int32 → Int32 → Int32 → Option Int32} {rM : (Nat → Int32) → Int32 → Int32 → Int32 → Int32 → Option (Int32 × (Nat → Int32))} (h : HRel v w nm 0 0) (hM : v.1 0 = nI M) (hM2 : w 0 = nI M) (hM12 : M ≤ 12) (hp : p < M) (hlim : lim ≤ 7) (hr : ∀ x3, ∃ r, rC (nI lim) x2 x3 (nI (p + 1)) = some r ∧ rM mr (nI lim) x2 x3 (nI (p + 1)) = some (r, mr)) : ∀ d fu fu' k x3, d + k = M → d < fu → d < fu' → ∃ r, f_X4_takenPair_L23 v rC fu (nI lim) x2 x3 (nI p) (nI k) = some r ∧ f_X11_takenFor_L44 w nm rM fu' mr (nI lim) x2 x3 (nI p) (nI k) = some (r, mr) := by
  intro d
  induction d with
  | zero =>
    intro fu fu' k x3 hd hf hf'
    obtain ⟨fu, rfl⟩ : ∃ m, fu = m + 1 := ⟨fu - 1, by omega⟩
    obtain ⟨fu', rfl⟩ : ∃ m, fu' = m + 1 := ⟨fu' - 1, by omega⟩
    have e : k = M := by omega
    subst e
    rw [f_X4_takenPair_L23, f_X8_size, Option.bind_some, hM, if_pos (Int32.le_refl _), f_X11_takenFor_L44, if_neg k0.1, k0.2.1, hM2, if_pos (Int32.le_refl _), nI_1]
    exact hr x3
  | succ d ih =>
    intro fu fu' k x3 hd hf hf'
    obtain ⟨fu, rfl⟩ : ∃ m, fu = m + 1 := ⟨fu - 1, by omega⟩
    obtain ⟨fu', rfl⟩ : ∃ m, fu' = m + 1 := ⟨fu' - 1, by omega⟩
    have nl : ¬ nI M ≤ nI k := nI_ge (a := k) (b := M) (by omega) (by omega)
    obtain ⟨t, t1, t2⟩ := tak_eq h hM hM12 hp (q := k) (by omega) hlim
    have e1 := fun y => ih fu fu' (k + 1) y (by omega) (by omega) (by omega)
    rw [f_X4_takenPair_L23, f_X8_size, Option.bind_some, hM, if_neg nl, t1, Option.bind_some, f_X11_takenFor_L44, if_neg k0.1, k0.2.1, hM2, if_neg nl, t2, Option.bind_some]
    unfold f_X4_takenPair_B64 f_X11_takenFor_B84
    rw [nI_1]
    by_cases q : t = 0
    · rw [if_pos q, if_pos q]; exact e1 _
    · rw [if_neg q, if_neg q]
      by_cases q2 : x3 = x2
      · rw [if_pos q2, if_pos q2]; exact ⟨_, rfl, rfl⟩
      · rw [if_neg q2, if_neg q2]; exact e1 _
theorem tkO {v : HallV} {w : Nat → Int32} {nm : Nat → Int64} {M lim : Nat} {mr : Nat → Int32} {x2 : Int32} (h : HRel v w nm 0 0) (hM : v.1 0 = nI M) (hM2 : w 0 = nI M) (hM12 : M ≤ 12) (hlim : lim ≤ 7) : ∀ d fu fu' k x3, d + k = M → d < fu → d < fu' → ∃ r, f_X4_takenPair_L5 v fu (nI lim) x2 x3 (nI k) = some r ∧ f_X11_takenFor_L27 w nm fu' mr (nI lim) x2 x3 (nI k) = some (r, mr) := by
  intro d
  induction d with
  | zero =>
    intro fu fu' k x3 hd hf hf'
    obtain ⟨fu, rfl⟩ : ∃ m, fu = m + 1 := ⟨fu - 1, by omega⟩
    obtain ⟨fu', rfl⟩ : ∃ m, fu' = m + 1 := ⟨fu' - 1, by omega⟩
    have e : k = M := by omega
    subst e
    rw [f_X4_takenPair_L5, f_X8_size, Option.bind_some, hM, if_pos (Int32.le_refl _), f_X11_takenFor_L27, if_neg k0.1, k0.2.1, hM2, if_pos (Int32.le_refl _)]
    by_cases q : x2 = -1
    · rw [if_pos q, if_pos q]; exact ⟨_, rfl, rfl⟩
    · rw [if_neg q, if_neg q]; exact ⟨_, rfl, rfl⟩
  | succ d ih =>
    intro fu fu' k x3 hd hf hf'
    obtain ⟨fu, rfl⟩ : ∃ m, fu = m + 1 := ⟨fu - 1, by omega⟩
    obtain ⟨fu', rfl⟩ : ∃ m, fu' = m + 1 := ⟨fu' - 1, by omega⟩
    have nl : ¬ nI M ≤ nI k := nI_ge (a := k) (b := M) (by omega) (by omega)
    rw [f_X4_takenPair_L5, f_X8_size, Option.bind_some, hM, if_neg nl, f_X11_takenFor_L27, if_neg k0.1, k0.2.1, hM2, if_neg nl, nI_1]
    exact tkI h hM hM2 hM12 (by omega) hlim (fun y => ih fu fu' (k + 1) y (by omega) (by omega) (by omega)) (M - (k + 1)) FU FU (k + 1) x3 (by omega) (FU1 (by omega)) (FU1 (by omega))
theorem r_index {keptImages : Int32} {fab : Int64} {fbe : Int64} {bads : Int32} {noes : Int32} {fulls : Int32} {now : HallV} {bl : Int32} {kp : Int32} {ring : Nat → HallV} {imgs : Nat → HallV} {tlen : Int32} {tby : Nat → Int32} {draft : HallV} {rall : Nat → Int32} {nmost : Nat → Int32} {mw : Nat → Int32} {mnames : Nat → Int64} {mkept : Nat → Int32} {mtext : Nat → Int32} {mtexted : Int32} {mundo : Int32} {mabove : Int64} {mbelow : Int64} {mrefused : Nat → Int32} (hR : Rel now bl kp ring imgs tlen tby draft rall nmost keptImages fab fbe bads noes fulls mw mnames mkept mtext mtexted mundo mabove mbelow mrefused)  : ∃ (q : Int32) (q' : Int32), f_X10_index now = some q ∧ f_X11_index mw mnames = some q' ∧ q = q' ∧ Rel now bl kp ring imgs tlen tby draft rall nmost keptImages fab fbe bads noes fulls mw mnames mkept mtext mtexted mundo mabove mbelow mrefused := by
  obtain ⟨M, W, P, hW, e1, e2⟩ := hR.1.ppl
  obtain ⟨r, k1, k2⟩ := idx_L P 32 FU FU 0 (-1) (by omega) (FU1 (by omega)) (FU1 (by omega)) (Or.inl rfl)
  have k1 : f_X4_fewestApart now = some r := k1
  have k2 : f_X11_index mw mnames = some r := k2
  refine ⟨r, r, ?_, k2, rfl, hR⟩
  unfold f_X10_index
  rw [k1]; rfl
theorem r_takenFor {keptImages : Int32} {fab : Int64} {fbe : Int64} {bads : Int32} {noes : Int32} {fulls : Int32} {now : HallV} {bl : Int32} {kp : Int32} {ring : Nat → HallV} {imgs : Nat → HallV} {tlen : Int32} {tby : Nat → Int32} {draft : HallV} {rall : Nat → Int32} {nmost : Nat → Int32} {mw : Nat → Int32} {mnames : Nat → Int64} {mkept : Nat → Int32} {mtext : Nat → Int32} {mtexted : Int32} {mundo : Int32} {mabove : Int64} {mbelow : Int64} {mrefused : Nat → Int32} (hR : Rel now bl kp ring imgs tlen tby draft rall nmost keptImages fab fbe bads noes fulls mw mnames mkept mtext mtexted mundo mabove mbelow mrefused) (x1 : Int32) (x2 : Int32) : ∃ (q : Int32 × Int32 × Int32 × Int32) (q' : Int32 × (Nat → Int32)), f_X10_takenFor bads noes fulls now x1 x2 = some q ∧ f_X11_takenFor mw mnames mrefused x1 x2 = some q' ∧ q.1 = q'.1 ∧ Rel now bl kp ring imgs tlen tby draft rall nmost keptImages fab fbe q.2.1 q.2.2.1 q.2.2.2 mw mnames mkept mtext mtexted mundo mabove mbelow q'.2 := by
  obtain ⟨M, W, P, hW, e1, e2⟩ := hR.1.ppl
  obtain ⟨b, n, f, m, c1, c2, c3⟩ := ct10 hR.2.2.2.2.2.2.2.2
  by_cases g : 0 ≤ x1 ∧ x1 ≤ 7
  · obtain ⟨lim, rfl, _, hl⟩ := (inN_iff (x := x1) (a := 0) (b := 7) (by decide) (by decide)).mpr g
    by_cases g2 : (-1 : Int32) ≤ x2
    · obtain ⟨r, k1, k2⟩ := tkO (mr := mrefused) (x2 := x2) hR.1 P.a1 P.a2 P.m12 hl M FU FU 0 0 (by omega) (FU1 (by have := P.m12; omega)) (FU1 (by have := P.m12; omega))
      have k1 : f_X4_takenPair now (nI lim) x2 = some r := k1
      have k2 : f_X11_takenFor_L27 mw mnames FU mrefused (nI lim) x2 (0 : Int32) (0 : Int32) = some (r, mrefused) := k2
      refine ⟨(r, bads, noes, fulls), (r, mrefused), ?_, ?_, rfl, hR⟩
      · unfold f_X10_takenFor
        simp only [within_eq, g, g2, k1, one0, i01, Option.bind_some, not_true, if_false, not_false_eq_true, if_true, and_self]
      · unfold f_X11_takenFor
        simp only [in32 (la := 0) (lb := 7) 0 7 (by decide) (by decide), g, g2, k2, one0, i01, Option.bind_some, not_true, if_false, not_false_eq_true, if_true, and_self]
    · refine ⟨(-10, b, n, f), (-10, m), ?_, ?_, rfl, hR.now hR.1 (fun _ _ => rfl) (fun _ _ => rfl) c3⟩
      · unfold f_X10_takenFor f_X10_takenFor_B15
        simp only [within_eq, g, g2, c1, one0, i01, Option.bind_some, not_true, if_false, not_false_eq_true, if_true, and_self]
      · unfold f_X11_takenFor f_X11_takenFor_B17
        simp only [in32 (la := 0) (lb := 7) 0 7 (by decide) (by decide), g, g2, c2, one0, i01, Option.bind_some, not_true, if_false, not_false_eq_true, if_true, and_self]
  · refine ⟨(-10, b, n, f), (-10, m), ?_, ?_, rfl, hR.now hR.1 (fun _ _ => rfl) (fun _ _ => rfl) c3⟩
    · unfold f_X10_takenFor f_X10_takenFor_B15
      simp only [within_eq, g, c1, one0, i01, Option.bind_some, not_true, if_false, not_false_eq_true, if_true, and_self]
    · unfold f_X11_takenFor f_X11_takenFor_B17
      simp only [in32 (la := 0) (lb := 7) 0 7 (by decide) (by decide), g, c2, one0, i01, Option.bind_some, not_true, if_false, not_false_eq_true, if_true, and_self]
