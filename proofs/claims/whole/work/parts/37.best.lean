/-! PURE 15: the best row -/
def stB (w : Nat → Int32) (p h lim T lm : Nat) (any : Bool) (a : Nat × Nat) (x : Nat) : Nat × Nat :=
  if val T x = true ∧ (stp w p h lim x 5).1 ≤ lm ∧ (any = true ∨ (stp w p h lim x 5).2.2.2.1 = false) ∧ (stp w p h lim x 5).2.2.2.2 < a.2 then (x, (stp w p h lim x 5).2.2.2.2) else a
theorem val_mono {T x : Nat} (hT : T ≤ 5) (h : val T x = true) : val 5 x = true := by
  unfold val at h ⊢
  simp only [Bool.and_eq_true, decide_eq_true_eq] at h ⊢
  refine ⟨h.1, (vok_iff 5 x 5 (by omega)).mpr (fun i h1 h2 => ?_)⟩
  have := (vok_iff T x 5 (by omega)).mp h.2 i h1 h2
  exact ⟨⟨this.1.1, by omega⟩, this.2⟩
def inL (x : Nat) : Bool := allL.any (fun y => Nat.beq x y)
theorem inL_mem {x : Nat} (h : inL x = true) : x ∈ allL := by
  unfold inL at h
  obtain ⟨y, hy, e⟩ := List.any_eq_true.mp h
  rw [Nat.eq_of_beq_eq_true e]; exact hy
theorem allv : ∀ a, a < 6 → ∀ b, b < 6 → ∀ c, c < 6 → ∀ d, d < 6 → ∀ e, e < 6 → (!(val 5 (10000 * a + 1000 * b + 100 * c + 10 * d + e)) || inL (10000 * a + 1000 * b + 100 * c + 10 * d + e)) = true := by decide +kernel
theorem val_in {T x : Nat} (hT : T ≤ 5) (h : val T x = true) : x ∈ allL := by
  have h5 := val_mono hT h
  obtain ⟨hx, hd⟩ := val_d h5
  have e : x = 10000 * dgt x 0 + 1000 * dgt x 1 + 100 * dgt x 2 + 10 * dgt x 3 + dgt x 4 := by
    have v0 : dgt x 0 = x / 10000 % 10 := rfl
    have v1 : dgt x 1 = x / 1000 % 10 := rfl
    have v2 : dgt x 2 = x / 100 % 10 := rfl
    have v3 : dgt x 3 = x / 10 % 10 := rfl
    have v4 : dgt x 4 = x / 1 % 10 := rfl
    omega
  have l0 := hd 0 (by omega)
  have l1 := hd 1 (by omega)
  have l2 := hd 2 (by omega)
  have l3 := hd 3 (by omega)
  have l4 := hd 4 (by omega)
  have := allv (dgt x 0) (by omega) (dgt x 1) (by omega) (dgt x 2) (by omega) (dgt x 3) (by omega) (dgt x 4) (by omega)
  rw [← e, h5] at this
  exact inL_mem this
def mostT (T : Nat) : Nat := if T = 0 then 0 else if T = 1 then 1 else if T = 2 then 22 else if T = 3 then 333 else if T = 4 then 4444 else 55555
theorem val_most : ∀ T, T < 6 → allL.all (fun x => !(val T x) || Nat.ble x (mostT T)) = true := by decide +kernel
theorem val_le {T x : Nat} (hT : T ≤ 5) (h : val T x = true) : x ≤ mostT T := by
  have := List.all_eq_true.mp (val_most T (by omega)) x (val_in hT h)
  rw [h] at this
  exact Nat.le_of_ble_eq_true this
def incr : Nat → List Nat → Bool | _, [] => true | a, b :: l => Nat.blt a b && incr b l
theorem allL_0 : allL = 0 :: allL.drop 1 := rfl
theorem allL_i : incr 0 (allL.drop 1) = true := by decide +kernel
theorem allL_b : allL.all (fun x => Nat.ble x 54321) = true := by decide +kernel
theorem allL_len : allL.length = 326 := by decide +kernel
theorem incr_gt : ∀ (l : List Nat) a, incr a l = true → ∀ x ∈ l, a < x := by
  intro l
  induction l with
  | nil => intro a _ x hx; cases hx
  | cons b l ih =>
    intro a h x hx
    simp only [incr, Bool.and_eq_true] at h
    have hab : a < b := Nat.le_of_ble_eq_true h.1
    rcases List.mem_cons.mp hx with e | e
    · rw [e]; exact hab
    · exact Nat.lt_trans hab (ih b h.2 x e)
theorem fold_id {α : Type} (f : α → Nat → α) (a : α) : ∀ n s, (∀ x, s ≤ x → x < s + n → f a x = a) → List.foldl f a (List.range' s n) = a := by
  intro n
  induction n with
  | zero => intro s _; rfl
  | succ n ih =>
    intro s h
    rw [List.range'_succ, List.foldl_cons, h s (by omega) (by omega)]
    exact ih (s + 1) (fun x h1 h2 => h x (by omega) (by omega))
theorem fold_l {α : Type} (f : α → Nat → α) (N : Nat) : ∀ (l : List Nat) a acc, incr a l = true → (∀ x ∈ l, x ≤ N) → a ≤ N → (∀ acc x, a < x → x ∉ l → f acc x = acc) → List.foldl f acc (List.range' (a + 1) (N - a)) = List.foldl f acc l := by
  intro l
  induction l with
  | nil =>
    intro a acc _ _ _ h
    exact fold_id f acc (N - a) (a + 1) (fun x h1 h2 => h acc x (by omega) (by simp))
  | cons b l ih =>
    intro a acc hi hN ha h
    have hi0 := hi
    simp only [incr, Bool.and_eq_true] at hi
    have hab : a < b := Nat.le_of_ble_eq_true hi.1
    have hbN := hN b (by simp)
    have e1 : List.range' (a + 1) (N - a) = List.range' (a + 1) (b - a - 1) ++ (b :: List.range' (b + 1) (N - b)) := by
      have e2 : N - a = (b - a - 1) + (1 + (N - b)) := by omega
      rw [e2, ← List.range'_append_1, show a + 1 + (b - a - 1) = b from by omega, show 1 + (N - b) = (N - b) + 1 from by omega, List.range'_succ]
    rw [e1, List.foldl_append, fold_id f acc (b - a - 1) (a + 1) (fun x h1 h2 => h acc x (by omega) (fun hx => by
      rcases List.mem_cons.mp hx with e | e
      · omega
      · have := incr_gt l b hi.2 x e; omega)), List.foldl_cons, List.foldl_cons]
    exact ih b (f acc b) hi.2 (fun x hx => hN x (by simp [hx])) hbN (fun acc x h1 h2 => h acc x (by omega) (fun hx => by
      rcases List.mem_cons.mp hx with e | e
      · omega
      · exact h2 e))
theorem stB_no {w : Nat → Int32} {p h lim T lm : Nat} {any : Bool} {a : Nat × Nat} {x : Nat} (hv : val T x = false) : stB w p h lim T lm any a x = a := by
  unfold stB
  rw [if_neg (fun z => by rw [hv] at z; exact absurd z.1 (by decide))]
theorem best_fold {w : Nat → Int32} {p h lim T lm : Nat} {any : Bool} (hT : T ≤ 5) (a : Nat × Nat) : List.foldl (stB w p h lim T lm any) a (List.range' 1 (mostT T)) = List.foldl (stB w p h lim T lm any) a (allL.drop 1) := by
  have hm : mostT T ≤ 55555 := by
    unfold mostT
    repeat' split
    all_goals omega
  have e1 : List.foldl (stB w p h lim T lm any) a (List.range' 1 55555) = List.foldl (stB w p h lim T lm any) a (List.range' 1 (mostT T)) := by
    rw [show 55555 = mostT T + (55555 - mostT T) from by omega, ← List.range'_append_1, List.foldl_append]
    apply fold_id
    intro x h1 h2
    apply stB_no
    cases hv : val T x with
    | false => rfl
    | true => have := val_le hT hv; omega
  rw [← e1]
  have := fold_l (stB w p h lim T lm any) 55555 (allL.drop 1) 0 a allL_i (fun x hx => by
    have := List.all_eq_true.mp allL_b x (List.mem_of_mem_drop hx)
    have := Nat.le_of_ble_eq_true this
    omega) (by omega) (fun acc x h1 h2 => stB_no (by
      cases hv : val T x with
      | false => rfl
      | true =>
        have hi := val_in hT hv
        rw [allL_0] at hi
        rcases List.mem_cons.mp hi with e | e
        · omega
        · exact absurd e h2))
  exact this

