/-! PURE 24: the text, sign by sign -/
abbrev Txt (n : Nat) (tby mt : Nat → Int32) (c : Nat → Nat) : Prop := n ≤ 300 ∧ ∀ j, j < n → tby j &&& (255 : Int32) = nI (c j) ∧ mt j = nI (c j) ∧ c j ≤ 255
def zL (x : Nat) : Bool := decide (97 ≤ x ∧ x ≤ 122)
def zF (x : Nat) : Bool := decide (48 ≤ x ∧ x ≤ 57)
def zrun (P : Nat → Bool) : Nat → Nat → Nat
  | 0, i => i
  | d + 1, i => if P i = true then zrun P d (i + 1) else i
def zup (P : Nat → Bool) (n i : Nat) : Nat := zrun P (n - i) i
theorem zrun_all (P : Nat → Bool) : ∀ d i, i ≤ zrun P d i ∧ zrun P d i ≤ i + d ∧ (∀ j, i ≤ j → j < zrun P d i → P j = true) := by
  intro d
  induction d with
  | zero => intro i; exact ⟨Nat.le_refl _, Nat.le_refl _, fun j h1 h2 => absurd h2 (by rw [zrun]; omega)⟩
  | succ d ih =>
    intro i
    rw [zrun]
    by_cases h : P i = true
    · rw [if_pos h]
      obtain ⟨h1, h2, h3⟩ := ih (i + 1)
      refine ⟨by omega, by omega, fun j j1 j2 => ?_⟩
      by_cases q : j = i
      · rw [q]; exact h
      · exact h3 j (by omega) j2
    · rw [if_neg h]
      exact ⟨Nat.le_refl _, by omega, fun j j1 j2 => absurd j2 (by omega)⟩
theorem zup_t {P : Nat → Bool} {n i : Nat} (h : i < n) (hp : P i = true) : zup P n i = zup P n (i + 1) := by
  unfold zup
  rw [show n - i = (n - (i + 1)) + 1 from by omega, zrun, if_pos hp]
theorem zup_f {P : Nat → Bool} {n i : Nat} (hp : P i = false) : zup P n i = i := by
  unfold zup
  cases n - i with
  | zero => rfl
  | succ d => rw [zrun, if_neg (by rw [hp]; decide)]
theorem zup_e {P : Nat → Bool} {n i : Nat} (h : n ≤ i) : zup P n i = i := by
  unfold zup
  rw [show n - i = 0 from by omega, zrun]
theorem zup_le {P : Nat → Bool} {n i : Nat} (h : i ≤ n) : i ≤ zup P n i ∧ zup P n i ≤ n := by
  have := zrun_all P (n - i) i
  unfold zup
  omega
theorem zup_all {P : Nat → Bool} {n i j : Nat} (h1 : i ≤ j) (h2 : j < zup P n i) : P j = true := (zrun_all P (n - i) i).2.2 j h1 h2
def sk (c : Nat → Nat) (n i : Nat) : Nat := zup (fun j => decide (c j = 32)) n i
def lf (c : Nat → Nat) (n i : Nat) : Nat := zup (fun j => zL (c j)) n i
def ff (c : Nat → Nat) (n i : Nat) : Nat := zup (fun j => zF (c j)) n i
def tk (c : Nat → Nat) (n b : Nat) : Nat := if n ≤ sk c n b then 0 else if zL (c (sk c n b)) = true then 1 else if zF (c (sk c n b)) = true then (if ff c n (sk c n b) - sk c n b ≤ 2 then 2 else 4) else if c (sk c n b) = 59 then 3 else 4
def te (c : Nat → Nat) (n b : Nat) : Nat := if n ≤ sk c n b then sk c n b else if zL (c (sk c n b)) = true then lf c n (sk c n b) else if zF (c (sk c n b)) = true then ff c n (sk c n b) else sk c n b + 1
theorem rng {a b x : Nat} (ha : a < 2 ^ 31) (hb : b < 2 ^ 31) (hx : x < 2 ^ 31) : (if nI a ≤ nI x ∧ nI x ≤ nI b then (1 : Int32) else 0) = bI (decide (a ≤ x ∧ x ≤ b)) := by
  simp only [nI_leI ha hx, nI_leI hx hb]
  unfold bI
  by_cases h : a ≤ x ∧ x ≤ b <;> simp [h]
theorem bI_ok (b : Bool) : (bI b = 0 ∨ bI b = 1) := by cases b <;> decide
theorem bA {n : Nat} {tby mt : Nat → Int32} {c : Nat → Nat} (T : Txt n tby mt c) {j : Nat} (h : j < n) : f_X9_byteAt (nI n) tby (nI j) = some (nI (c j)) := by
  have hn := T.1
  unfold f_X9_byteAt
  rw [if_neg (nI_pos (by omega)), if_neg (nI_ge h (by omega)), if_neg (nge (a := j) (b := 300) (by omega) (by decide)), if_neg (gi (by omega) (by decide)), nI_clamp (by omega), (T.2 j h).1]
theorem lA {n : Nat} {tby mt : Nat → Int32} {c : Nat → Nat} (T : Txt n tby mt c) {j : Nat} (h : j < n) : f_X6_isLetter (nI n) tby (nI j) = some (bI (zL (c j))) := by
  have hc := (T.2 j h).2.2
  have e : (if (97 : Int32) ≤ nI (c j) ∧ nI (c j) ≤ (122 : Int32) then (1 : Int32) else 0) = bI (zL (c j)) := rng (a := 97) (b := 122) (by omega) (by omega) (by omega)
  unfold f_X6_isLetter
  rw [bA T h, Option.bind_some, within_eq, Option.bind_some, e, if_pos (bI_ok _)]
theorem fA {n : Nat} {tby mt : Nat → Int32} {c : Nat → Nat} (T : Txt n tby mt c) {j : Nat} (h : j < n) : f_X6_isFigure (nI n) tby (nI j) = some (bI (zF (c j))) := by
  have hc := (T.2 j h).2.2
  have e : (if (48 : Int32) ≤ nI (c j) ∧ nI (c j) ≤ (57 : Int32) then (1 : Int32) else 0) = bI (zF (c j)) := rng (a := 48) (b := 57) (by omega) (by omega) (by omega)
  unfold f_X6_isFigure
  rw [bA T h, Option.bind_some, within_eq, Option.bind_some, e, if_pos (bI_ok _)]
theorem lM {n : Nat} {tby mt : Nat → Int32} {c : Nat → Nat} (T : Txt n tby mt c) {j : Nat} (h : j < n) : f_X11_in (mt j).toInt64 (97 : Int64) (122 : Int64) = some (bI (zL (c j))) := by
  have hc := (T.2 j h).2.2
  rw [in32 (la := 97) (lb := 122) 97 122 (by decide) (by decide), (T.2 j h).2.1]
  exact congrArg some (rng (a := 97) (b := 122) (by omega) (by omega) (by omega))
theorem fM {n : Nat} {tby mt : Nat → Int32} {c : Nat → Nat} (T : Txt n tby mt c) {j : Nat} (h : j < n) : f_X11_in (mt j).toInt64 (48 : Int64) (57 : Int64) = some (bI (zF (c j))) := by
  have hc := (T.2 j h).2.2
  rw [in32 (la := 48) (lb := 57) 48 57 (by decide) (by decide), (T.2 j h).2.1]
  exact congrArg some (rng (a := 48) (b := 57) (by omega) (by omega) (by omega))
theorem bI0 {b : Bool} : bI b = 0 ↔ b = false := by cases b <;> decide
theorem c32 {x : Nat} (h : x ≤ 255) : nI x = (32 : Int32) ↔ x = 32 := nI_eq (b := 32) (by omega) (by omega)
theorem c59 {x : Nat} (h : x ≤ 255) : nI x = (59 : Int32) ↔ x = 59 := nI_eq (b := 59) (by omega) (by omega)
theorem sk_t {c : Nat → Nat} {n i : Nat} (h : i < n) (hp : c i = 32) : sk c n i = sk c n (i + 1) := zup_t h (by simp [hp])
theorem sk_f {c : Nat → Nat} {n i : Nat} (hp : ¬ c i = 32) : sk c n i = i := zup_f (by simp [hp])
theorem sk_e {c : Nat → Nat} {n i : Nat} (h : n ≤ i) : sk c n i = i := zup_e h
theorem sk_le {c : Nat → Nat} {n i : Nat} (h : i ≤ n) : i ≤ sk c n i ∧ sk c n i ≤ n := zup_le h
theorem sk_sk {c : Nat → Nat} {n i : Nat} : ∀ d i, i + d = n → sk c n (sk c n i) = sk c n i := by
  intro d
  induction d with
  | zero => intro i h; rw [sk_e (i := i) (by omega), sk_e (by omega)]
  | succ d ih =>
    intro i h
    by_cases q : c i = 32
    · rw [sk_t (by omega) q]; exact ih (i + 1) (by omega)
    · rw [sk_f q, sk_f q]
theorem st16 {n : Nat} {tby mt : Nat → Int32} {c : Nat → Nat} (T : Txt n tby mt c) {k b : Int32} : ∀ d fu i, i + d = n → d < fu → f_X6_step_L16 (nI n) tby fu k (nI i) b (nI n) = f_X6_step_B53 (nI n) tby k (nI (sk c n i)) b (nI n) := by
  have hn := T.1
  intro d
  induction d with
  | zero =>
    intro fu i hi hf
    obtain ⟨fu, rfl⟩ : ∃ m, fu = m + 1 := ⟨fu - 1, by omega⟩
    have e : i = n := by omega
    subst e
    rw [f_X6_step_L16, if_pos (Int32.le_refl _), sk_e (Nat.le_refl _)]
  | succ d ih =>
    intro fu i hi hf
    obtain ⟨fu, rfl⟩ : ∃ m, fu = m + 1 := ⟨fu - 1, by omega⟩
    have h : i < n := by omega
    rw [f_X6_step_L16, if_neg (nI_ge h (by omega)), bA T h, Option.bind_some]
    by_cases q : c i = 32
    · rw [if_pos ((c32 (T.2 i h).2.2).mpr q), nI_1, ih fu (i + 1) (by omega) (by omega), sk_t h q]
    · rw [if_neg (fun z => q ((c32 (T.2 i h).2.2).mp z)), sk_f q]
theorem st93 {n : Nat} {tby mt : Nat → Int32} {c : Nat → Nat} (T : Txt n tby mt c) {k s : Int32} : ∀ d fu i, i + d = n → d < fu → f_X6_step_L93 (nI n) tby fu k s (nI i) (nI n) = some (k, s, nI (lf c n i)) := by
  have hn := T.1
  intro d
  induction d with
  | zero =>
    intro fu i hi hf
    obtain ⟨fu, rfl⟩ : ∃ m, fu = m + 1 := ⟨fu - 1, by omega⟩
    have e : i = n := by omega
    subst e
    rw [f_X6_step_L93, if_pos (Int32.le_refl _), lf, zup_e (Nat.le_refl _)]
  | succ d ih =>
    intro fu i hi hf
    obtain ⟨fu, rfl⟩ : ∃ m, fu = m + 1 := ⟨fu - 1, by omega⟩
    have h : i < n := by omega
    rw [f_X6_step_L93, if_neg (nI_ge h (by omega)), lA T h, Option.bind_some]
    cases q : zL (c i)
    · rw [if_pos (bI0.mpr rfl), lf, zup_f (P := fun j => zL (c j)) (i := i) q]
    · rw [if_neg (by decide), nI_1, ih fu (i + 1) (by omega) (by omega), show lf c n i = lf c n (i + 1) from zup_t (P := fun j => zL (c j)) h q]
theorem st136 {n : Nat} {tby mt : Nat → Int32} {c : Nat → Nat} (T : Txt n tby mt c) {k s : Int32} : ∀ d fu i, i + d = n → d < fu → f_X6_step_L136 (nI n) tby fu k s (nI i) (nI n) = f_X6_step_B168 (nI n) tby k s (nI (ff c n i)) := by
  have hn := T.1
  intro d
  induction d with
  | zero =>
    intro fu i hi hf
    obtain ⟨fu, rfl⟩ : ∃ m, fu = m + 1 := ⟨fu - 1, by omega⟩
    have e : i = n := by omega
    subst e
    rw [f_X6_step_L136, if_pos (Int32.le_refl _), ff, zup_e (Nat.le_refl _)]
  | succ d ih =>
    intro fu i hi hf
    obtain ⟨fu, rfl⟩ : ∃ m, fu = m + 1 := ⟨fu - 1, by omega⟩
    have h : i < n := by omega
    rw [f_X6_step_L136, if_neg (nI_ge h (by omega)), fA T h, Option.bind_some]
    cases q : zF (c i)
    · rw [if_pos (bI0.mpr rfl), ff, zup_f (P := fun j => zF (c j)) (i := i) q]
    · rw [if_neg (by decide), nI_1, ih fu (i + 1) (by omega) (by omega), show ff c n i = ff c n (i + 1) from zup_t (P := fun j => zF (c j)) h q]
theorem n10 : ¬ (1 : Int32) = 0 := by decide
theorem fne : ¬ (false = true) := by decide
theorem bI1 : ¬ bI true = 0 := by decide
theorem step_eq {n : Nat} {tby mt : Nat → Int32} {c : Nat → Nat} (T : Txt n tby mt c) (k y : Int32) {b : Nat} (hb : b ≤ n) : f_X6_step (nI n) tby k y (nI b) = some (nI (tk c n b), nI (sk c n b), nI (te c n b)) := by
  have hn := T.1
  have hs := sk_le (c := c) hb
  unfold f_X6_step f_X9_size
  rw [Option.bind_some, st16 T (n - b) FU b (by omega) (FU1 (by omega))]
  unfold f_X6_step_B53 tk te
  generalize sk c n b = s at hs ⊢
  by_cases q : n ≤ s
  · have e : s = n := by omega
    subst e
    rw [if_neg (Int32.lt_irrefl), if_pos (Nat.le_refl _), if_pos (Nat.le_refl _)] <;> rfl
  · have h : s < n := by omega
    rw [if_pos (nI_lt h (by omega)), if_neg q, if_neg q, lA T h, Option.bind_some]
    cases ql : zL (c s)
    · rw [if_pos (bI0.mpr rfl), if_neg fne, if_neg fne, fA T h, Option.bind_some]
      cases qf : zF (c s)
      · rw [if_pos (bI0.mpr rfl), if_neg fne, if_neg fne, bA T h, Option.bind_some]
        unfold f_X6_step_B215
        by_cases q9 : c s = 59
        · rw [if_pos ((c59 (T.2 s h).2.2).mpr q9), if_pos q9, nI_1] <;> rfl
        · rw [if_neg (fun z => q9 ((c59 (T.2 s h).2.2).mp z)), if_neg q9, nI_1] <;> rfl
      · rw [if_neg bI1, if_pos (rfl : true = true), if_pos (rfl : true = true), st136 T (n - s) FU s (by omega) (FU1 (by omega))]
        have hf := zup_le (P := fun j => zF (c j)) (Nat.le_of_lt h)
        have hf : s ≤ ff c n s ∧ ff c n s ≤ n := hf
        unfold f_X6_step_B168 f_X6_step_B187
        rw [nI_sub hf.1]
        by_cases q2 : ff c n s - s ≤ 2
        · rw [if_neg (fun z => by have := (nI_ltI (a := 2) (by omega) (by omega)).mp z; omega), if_pos q2] <;> rfl
        · rw [if_pos (show (2 : Int32) < nI (ff c n s - s) from nI_lt (a := 2) (by omega) (by omega)), if_neg q2] <;> rfl
    · rw [if_neg bI1, if_pos (rfl : true = true), if_pos (rfl : true = true), st93 T (n - s) FU s (by omega) (FU1 (by omega))] <;> rfl
/-- the other's -/
theorem end_L {n : Nat} {tby mt : Nat → Int32} {c : Nat → Nat} (T : Txt n tby mt c) : ∀ d fu i, i + d = n → d < fu → f_X11_isEnd_L0 mt (nI n) fu (nI i) = some ((if sk c n i = n then (1 : Int32) else 0), nI (sk c n i)) := by
  have hn := T.1
  intro d
  induction d with
  | zero =>
    intro fu i hi hf
    obtain ⟨fu, rfl⟩ : ∃ m, fu = m + 1 := ⟨fu - 1, by omega⟩
    have e : i = n := by omega
    subst e
    rw [f_X11_isEnd_L0, if_pos (Int32.le_refl _), sk_e (Nat.le_refl _)]
    unfold f_X11_isEnd_B38
    rw [if_pos rfl, if_pos rfl]
  | succ d ih =>
    intro fu i hi hf
    obtain ⟨fu, rfl⟩ : ∃ m, fu = m + 1 := ⟨fu - 1, by omega⟩
    have h : i < n := by omega
    rw [f_X11_isEnd_L0, if_neg (nI_ge h (by omega)), gg (by omega) (by omega), nI_clamp (by omega), (T.2 i h).2.1]
    by_cases q : c i = 32
    · rw [if_pos ((c32 (T.2 i h).2.2).mpr q), nI_1, ih fu (i + 1) (by omega) (by omega), sk_t h q]
    · rw [if_neg (fun z => q ((c32 (T.2 i h).2.2).mp z)), sk_f q]
      unfold f_X11_isEnd_B38
      rw [if_neg (fun z => by have := (nI_eq (by omega) (by omega)).mp z; omega), if_neg (by omega)]
theorem end_eq {n : Nat} {tby mt : Nat → Int32} {c : Nat → Nat} (T : Txt n tby mt c) {i : Nat} (h : i ≤ n) : f_X11_isEnd mt (nI n) (nI i) = some ((if sk c n i = n then (1 : Int32) else 0), nI (sk c n i)) := end_L T (n - i) FU i (by omega) (FU1 (by have := T.1; omega))
def lv7 (c : Nat → Nat) (s : Nat) : Nat → Int64
  | 0 => 0
  | k + 1 => if 7 ≤ k then -1 else ((32 : Int64) * lv7 c s k + (nI (c (s + k))).toInt64) - (96 : Int64)
def nv (c : Nat → Nat) (s : Nat) : Nat → Int32
  | 0 => 0
  | k + 1 => ((10 : Int32) * nv c s k + nI (c (s + k))) - (48 : Int32)
theorem tl7 {n : Nat} {tby mt : Nat → Int32} {c : Nat → Nat} (T : Txt n tby mt c) {s : Nat} : ∀ d fu k, s + k + d = n → d < fu → f_X11_takeLetters_L7 mt (nI n) fu (nI (s + k)) (nI s) (lv7 c s k) = some (lv7 c s (lf c n (s + k) - s), nI (lf c n (s + k))) := by
  have hn := T.1
  intro d
  induction d with
  | zero =>
    intro fu k hi hf
    obtain ⟨fu, rfl⟩ : ∃ m, fu = m + 1 := ⟨fu - 1, by omega⟩
    have e : s + k = n := by omega
    rw [f_X11_takeLetters_L7, e, if_pos (Int32.le_refl _), lf, zup_e (Nat.le_refl _), show n - s = k from by omega]
  | succ d ih =>
    intro fu k hi hf
    obtain ⟨fu, rfl⟩ : ∃ m, fu = m + 1 := ⟨fu - 1, by omega⟩
    have h : s + k < n := by omega
    have e1 := ih fu (k + 1) (by omega) (by omega)
    rw [f_X11_takeLetters_L7, if_neg (nI_ge h (by omega)), gg (by omega) (by omega), nI_clamp (by omega), lM T h, Option.bind_some]
    cases q : zL (c (s + k))
    · rw [if_pos (bI0.mpr rfl), lf, zup_f (P := fun j => zL (c j)) (i := s + k) q, show s + k - s = k from by omega]
    · have el : lf c n (s + k) = lf c n (s + (k + 1)) := zup_t (P := fun j => zL (c j)) h q
      have es : nI (s + k) - nI s = nI k := by rw [nI_sub (by omega), show s + k - s = k from by omega]
      rw [if_neg (by decide), es, gg' (by omega) (by omega), (T.2 _ h).2.1]
      unfold f_X11_takeLetters_B77
      rw [nI_1, el]
      rw [lv7] at e1
      by_cases q7 : 7 ≤ k
      · rw [if_pos (show (7 : Int32) ≤ nI k from nI_le (a := 7) q7 (by omega))]
        rw [if_pos q7] at e1
        exact e1
      · rw [if_neg (show ¬ (7 : Int32) ≤ nI k from nI_ge (b := 7) (by omega) (by omega))]
        rw [if_neg q7] at e1
        exact e1
theorem tl_eq {n : Nat} {tby mt : Nat → Int32} {c : Nat → Nat} (T : Txt n tby mt c) {s : Nat} (h : s ≤ n) : f_X11_takeLetters mt (nI n) (nI s) = some (lv7 c s (lf c n s - s), nI (lf c n s)) := tl7 T (n - s) FU 0 (by omega) (FU1 (by have := T.1; omega))
theorem tn24 {n : Nat} {tby mt : Nat → Int32} {c : Nat → Nat} (T : Txt n tby mt c) {s : Nat} {flt : Int32} : ∀ d fu k x, s + k + d = n → d < fu → (k ≤ 2 → x = nv c s k) → ∃ v, f_X11_takeNumber_L24 mt (nI n) fu (nI (s + k)) flt (nI s) x = f_X11_takeNumber_B102 mt (nI n) (nI (ff c n (s + k))) flt (nI s) v ∧ (ff c n (s + k) - s ≤ 2 → v = nv c s (ff c n (s + k) - s)) := by
  have hn := T.1
  intro d
  induction d with
  | zero =>
    intro fu k x hi hf hx
    obtain ⟨fu, rfl⟩ : ∃ m, fu = m + 1 := ⟨fu - 1, by omega⟩
    have e : s + k = n := by omega
    have ek : s + k - s = k := by omega
    rw [f_X11_takeNumber_L24, e, if_pos (Int32.le_refl _), ff, zup_e (Nat.le_refl _), ← e, ek]
    exact ⟨x, rfl, hx⟩
  | succ d ih =>
    intro fu k x hi hf hx
    obtain ⟨fu, rfl⟩ : ∃ m, fu = m + 1 := ⟨fu - 1, by omega⟩
    have h : s + k < n := by omega
    have ek : s + k - s = k := by omega
    rw [f_X11_takeNumber_L24, if_neg (nI_ge h (by omega)), gg (by omega) (by omega), nI_clamp (by omega), fM T h, Option.bind_some]
    cases q : zF (c (s + k))
    · rw [if_pos (bI0.mpr rfl), ff, zup_f (P := fun j => zF (c j)) (i := s + k) q, ek]
      exact ⟨x, rfl, hx⟩
    · have el : ff c n (s + k) = ff c n (s + (k + 1)) := zup_t (P := fun j => zF (c j)) h q
      have es : nI (s + k) - nI s = nI k := by rw [nI_sub (by omega), show s + k - s = k from by omega]
      rw [if_neg (by decide), es, gg' (by omega) (by omega), (T.2 _ h).2.1]
      unfold f_X11_takeNumber_B88
      rw [nI_1, el]
      by_cases q2 : 2 ≤ k
      · rw [if_pos (show (2 : Int32) ≤ nI k from nI_le (a := 2) q2 (by omega))]
        exact ih fu (k + 1) x (by omega) (by omega) (fun z => absurd z (by omega))
      · rw [if_neg (show ¬ (2 : Int32) ≤ nI k from nI_ge (b := 2) (by omega) (by omega))]
        exact ih fu (k + 1) _ (by omega) (by omega) (fun _ => by rw [hx (by omega), nv])
theorem tn_end {n : Nat} {tby mt : Nat → Int32} {c : Nat → Nat} (T : Txt n tby mt c) {i : Nat} {flt : Int32} (h : i ≤ n) (he : sk c n i = n) : f_X11_takeNumber mt (nI n) (nI i) flt = some ((-1 : Int32), nI n, nI n) := by
  unfold f_X11_takeNumber
  rw [end_eq T h, if_pos he, he, Option.bind_some]
  exact if_neg n10
theorem tn_eq {n : Nat} {tby mt : Nat → Int32} {c : Nat → Nat} (T : Txt n tby mt c) {i s : Nat} {flt : Int32} (h : i ≤ n) (hs : sk c n i = s) (he : s < n) : ∃ v, f_X11_takeNumber mt (nI n) (nI i) flt = some (v, nI (ff c n s), (if ff c n s = s ∨ 2 < ff c n s - s then nI s else flt)) ∧ (ff c n s - s ≤ 2 → v = nv c s (ff c n s - s)) := by
  have hn := T.1
  obtain ⟨v, h1, h2⟩ := tn24 T (s := s) (flt := flt) (n - s) FU 0 0 (by omega) (FU1 (by omega)) (fun _ => rfl)
  have h1 : f_X11_takeNumber_L24 mt (nI n) FU (nI s) flt (nI s) (0 : Int32) = f_X11_takeNumber_B102 mt (nI n) (nI (ff c n s)) flt (nI s) v := h1
  have hf : s ≤ ff c n s ∧ ff c n s ≤ n := zup_le (Nat.le_of_lt he)
  refine ⟨v, ?_, h2⟩
  unfold f_X11_takeNumber
  rw [end_eq T h, hs, if_neg (by omega), Option.bind_some]
  show (if (0 : Int32) = 0 then f_X11_takeNumber_L24 mt (nI n) FU (nI s) flt (nI s) (0 : Int32) else _) = _
  rw [if_pos rfl, h1]
  unfold f_X11_takeNumber_B102 f_X11_takeNumber_B121 f_X11_takeNumber_B129
  by_cases q : ff c n s = s
  · rw [if_pos (by rw [q]), if_pos (Or.inl q)]
  · rw [if_neg (fun z => q ((nI_eq (by omega) (by omega)).mp z)), nI_sub hf.1]
    by_cases q2 : ff c n s - s ≤ 2
    · rw [if_pos (show nI (ff c n s - s) ≤ (2 : Int32) from nI_le (b := 2) q2 (by omega)), if_neg (fun z => by omega)]
    · rw [if_neg (show ¬ nI (ff c n s - s) ≤ (2 : Int32) from nI_ge (a := 2) (by omega) (by omega)), if_pos (Or.inr (by omega))]
theorem m97 (a : Int64) : a - (97 : Int64) + (1 : Int64) = a - (96 : Int64) := by
  rw [Int64.sub_eq_add_neg, Int64.sub_eq_add_neg, Int64.add_assoc] <;> rfl
theorem wn7 {n : Nat} {tby mt : Nat → Int32} {c : Nat → Nat} (T : Txt n tby mt c) {s e : Nat} (hse : s ≤ e) (hen : e ≤ n) (h7 : e - s ≤ 7) : ∀ d fu k, k + d = e - s → d < fu → f_X6_wordAsName_L7 (nI n) tby (nI s) (nI e) fu (lv7 c s k) (nI (s + k)) = some (lv7 c s (e - s)) := by
  have hn := T.1
  intro d
  induction d with
  | zero =>
    intro fu k hi hf
    obtain ⟨fu, rfl⟩ : ∃ m, fu = m + 1 := ⟨fu - 1, by omega⟩
    have ek : k = e - s := by omega
    rw [f_X6_wordAsName_L7, if_pos (nI_le (by omega) (by omega)), ek]
  | succ d ih =>
    intro fu k hi hf
    obtain ⟨fu, rfl⟩ : ∃ m, fu = m + 1 := ⟨fu - 1, by omega⟩
    have e1 := ih fu (k + 1) (by omega) (by omega)
    rw [lv7, if_neg (by omega)] at e1
    rw [f_X6_wordAsName_L7, if_neg (nI_ge (by omega) (by omega)), nI_sub hse, if_neg (fun z => by have := (nI_ltI (a := 7) (by omega) (by omega)).mp z; omega), bA T (by omega), Option.bind_some, nI_1, m97]
    exact e1
theorem wn_eq {n : Nat} {tby mt : Nat → Int32} {c : Nat → Nat} (T : Txt n tby mt c) {s e : Nat} (hse : s ≤ e) (hen : e ≤ n) : f_X6_wordAsName (nI n) tby (nI s) (nI e) = some (if e - s ≤ 7 then lv7 c s (e - s) else 0) := by
  have hn := T.1
  by_cases h7 : e - s ≤ 7
  · rw [if_pos h7]
    exact wn7 T hse hen h7 (e - s) FU 0 (by omega) (FU1 (by omega))
  · rw [if_neg h7]
    have key : ∀ y, 0 < y → f_X6_wordAsName_L7 (nI n) tby (nI s) (nI e) y (0 : Int64) (nI s) = some 0 := by
      intro y hy
      obtain ⟨y, rfl⟩ : ∃ m, y = m + 1 := ⟨y - 1, by omega⟩
      rw [f_X6_wordAsName_L7, if_neg (nI_ge (by omega) (by omega)), nI_sub hse, if_pos (show (7 : Int32) < nI (e - s) from nI_lt (a := 7) (by omega) (by omega))]
    exact key FU (FU1 (by omega))
theorem tan7 {n : Nat} {tby mt : Nat → Int32} {c : Nat → Nat} (T : Txt n tby mt c) {s e : Nat} (hse : s ≤ e) (hen : e ≤ n) : ∀ d fu k, k + d = e - s → d < fu → f_X6_tokenAsNumber_L7 (nI n) tby (2 : Int32) (nI s) (nI e) fu (nv c s k) (nI (s + k)) = some (nv c s (e - s)) := by
  have hn := T.1
  intro d
  induction d with
  | zero =>
    intro fu k hi hf
    obtain ⟨fu, rfl⟩ : ∃ m, fu = m + 1 := ⟨fu - 1, by omega⟩
    have ek : k = e - s := by omega
    rw [f_X6_tokenAsNumber_L7, if_pos (nI_le (by omega) (by omega)), ek]
  | succ d ih =>
    intro fu k hi hf
    obtain ⟨fu, rfl⟩ : ∃ m, fu = m + 1 := ⟨fu - 1, by omega⟩
    have e1 := ih fu (k + 1) (by omega) (by omega)
    rw [nv] at e1
    rw [f_X6_tokenAsNumber_L7, if_neg (nI_ge (by omega) (by omega)), if_pos rfl, bA T (by omega), Option.bind_some, nI_1]
    exact e1
theorem tan2 {n : Nat} {tby mt : Nat → Int32} {c : Nat → Nat} (T : Txt n tby mt c) {s e : Nat} (hse : s ≤ e) (hen : e ≤ n) : f_X6_tokenAsNumber (nI n) tby (2 : Int32) (nI s) (nI e) = some (nv c s (e - s)) := tan7 T hse hen (e - s) FU 0 (by omega) (FU1 (by have := T.1; omega))
theorem tan0 {n : Nat} {tby : Nat → Int32} {k s e : Int32} (h : ¬ k = 2) : f_X6_tokenAsNumber (nI n) tby k s e = some 0 := by
  have key : ∀ y, 0 < y → f_X6_tokenAsNumber_L7 (nI n) tby k s e y (0 : Int32) s = some 0 := by
    intro y hy
    obtain ⟨y, rfl⟩ : ∃ m, y = m + 1 := ⟨y - 1, by omega⟩
    rw [f_X6_tokenAsNumber_L7, if_neg h, ite_self]
  exact key FU (FU1 (by omega))
