/-! PURE 19: a hall made anew -/
theorem bg59 : ∀ d fu k (sg : HallV), d + k = 5 → d < fu → ∃ v' : HallV, f_X1_begin_L59 fu sg (nI k) = some v' ∧ v'.1 = sg.1 ∧ v'.2.2 = sg.2.2 ∧ (∀ t, t ≠ 4 → v'.2.1 t = sg.2.1 t) ∧ (∀ c, c < 5 → v'.2.1 4 c = if k ≤ c then -1 else sg.2.1 4 c) := by
  intro d
  induction d with
  | zero =>
    intro fu k sg hd hf
    obtain ⟨fu, rfl⟩ : ∃ m, fu = m + 1 := ⟨fu - 1, by omega⟩
    have e : k = 5 := by omega
    subst e
    exact ⟨sg, by rw [f_X1_begin_L59, if_pos (by decide)], rfl, rfl, fun _ _ => rfl, fun c hc => by rw [if_neg (by omega)]⟩
  | succ d ih =>
    intro fu k sg hd hf
    obtain ⟨fu, rfl⟩ : ∃ m, fu = m + 1 := ⟨fu - 1, by omega⟩
    obtain ⟨v', e1, e2, e3, e4, e5⟩ := ih fu (k + 1) (hsC sg 4 (vp_updL (sg.2.1 4) k (-1))) (by omega) (by omega)
    refine ⟨v', ?_, e2, e3, fun t ht => by rw [e4 t ht, hsC_ne ht], fun c hc => ?_⟩
    · rw [f_X1_begin_L59, if_neg (n5k (by omega)), set_at (wd := 5) (N := 5) (x := 0) (y := nI k) 0 k 5 rfl rfl rfl (by omega) (by decide), Option.bind_some, nI_1, Nat.zero_mul, Nat.zero_add]
      exact e1
    · rw [e5 c hc, hsC_at]
      by_cases q : c = k
      · subst q; rw [if_neg (by omega), updL_s, if_pos (by omega)]
      · rw [updL_n q]
        by_cases q2 : k + 1 ≤ c
        · rw [if_pos q2, if_pos (by omega)]
        · rw [if_neg q2, if_neg (by omega)]
theorem bg28 : ∀ d fu k (sg : HallV), d + k = 8 → d < fu → ∃ v' : HallV, f_X1_begin_L28 fu sg (nI k) = some v' ∧ v'.1 = sg.1 ∧ v'.2.2 = sg.2.2 ∧ (∀ c, c < 8 → v'.2.1 3 c = if k ≤ c then (stF 0 c).toInt64 else sg.2.1 3 c) ∧ (∀ c, c < 5 → v'.2.1 4 c = -1) := by
  intro d
  induction d with
  | zero =>
    intro fu k sg hd hf
    obtain ⟨fu, rfl⟩ : ∃ m, fu = m + 1 := ⟨fu - 1, by omega⟩
    have e : k = 8 := by omega
    subst e
    obtain ⟨v', e1, e2, e3, e4, e5⟩ := bg59 5 FU 0 sg (by omega) (FU1 (by omega))
    exact ⟨v', by rw [f_X1_begin_L28, if_pos (by decide)]; exact e1, e2, e3, fun c hc => by rw [if_neg (by omega), e4 3 (by omega)], fun c hc => by rw [e5 c hc, if_pos (by omega)]⟩
  | succ d ih =>
    intro fu k sg hd hf
    obtain ⟨fu, rfl⟩ : ∃ m, fu = m + 1 := ⟨fu - 1, by omega⟩
    obtain ⟨v', e1, e2, e3, e4, e5⟩ := ih fu (k + 1) (hsC sg 3 (vp_updL (sg.2.1 3) k (stF 0 k).toInt64)) (by omega) (by omega)
    have n8 : ¬ (8 : Int32) ≤ nI k := nI_ge (a := k) (b := 8) (by omega) (by decide)
    refine ⟨v', ?_, e2, e3, fun c hc => ?_, e5⟩
    · rw [f_X1_begin_L28, if_neg n8, ats_eq (i := 0) (k := k) (x := nI k) rfl (show k < 8 by omega) (by decide), Option.bind_some, set_at (wd := 8) (N := 8) (x := 0) (y := nI k) 0 k 8 rfl rfl rfl (by omega) (by decide), Option.bind_some, nI_1, Nat.zero_mul, Nat.zero_add]
      exact e1
    · rw [e4 c hc, hsC_at]
      by_cases q : c = k
      · subst q; rw [if_neg (by omega), updL_s, if_pos (by omega)]
      · rw [updL_n q]
        by_cases q2 : k + 1 ≤ c
        · rw [if_pos q2, if_pos (by omega)]
        · rw [if_neg q2, if_neg (by omega)]
theorem mk98 {o : Nat} (ho : o + 120 ≤ 960) : ∀ d fu k w, d + k = 5 → d < fu → f_X11_makeAnew_L98 fu w (nI o) (nI k) = some (fun j => if o + 110 + k ≤ j ∧ j < o + 115 then -1 else w j) := by
  intro d
  induction d with
  | zero =>
    intro fu k w hd hf
    obtain ⟨fu, rfl⟩ : ∃ m, fu = m + 1 := ⟨fu - 1, by omega⟩
    have e : k = 5 := by omega
    subst e
    rw [f_X11_makeAnew_L98, if_pos (by decide)]
    congr 1; funext j; rw [if_neg (by omega)]
  | succ d ih =>
    intro fu k w hd hf
    obtain ⟨fu, rfl⟩ : ∃ m, fu = m + 1 := ⟨fu - 1, by omega⟩
    rw [f_X11_makeAnew_L98, if_neg (n5k (by omega)), show nI o + (110 : Int32) + nI k = nI (o + 110 + k) from by rw [show nI o + (110 : Int32) = nI (o + 110) from nI_add o 110, nI_add], gg (by omega) (by omega), nI_clamp (by omega), nI_1, ih fu (k + 1) _ (by omega) (by omega)]
    congr 1; funext j
    by_cases q : j = o + 110 + k
    · subst q; rw [if_neg (by omega), upd_s, if_pos ⟨by omega, by omega⟩]
    · rw [upd_n q]
      by_cases q2 : o + 110 + (k + 1) ≤ j ∧ j < o + 115
      · rw [if_pos q2, if_pos ⟨by omega, by omega⟩]
      · rw [if_neg q2, if_neg (by omega)]
def anew (w : Nat → Int32) (o : Nat) : Nat → Int32 := fun j => if o + 110 ≤ j ∧ j < o + 115 then -1 else upd (upd (upd (upd (upd (upd (fun j => if o ≤ j ∧ j < o + 120 then 0 else w j) (o + 103) 7) (o + 105) 3) (o + 106) 6) (o + 107) 8) (o + 108) 9) (o + 109) 10 j
theorem mk2 {o : Nat} {w0 : Nat → Int32} (ho : o + 120 ≤ 960) : ∀ d fu k w, d + k = 120 → d < fu → (∀ j, w j = if o ≤ j ∧ j < o + k then 0 else w0 j) → f_X11_makeAnew_L2 fu w (nI o) (nI k) = some (anew w0 o) := by
  intro d
  induction d with
  | zero =>
    intro fu k w hd hf hw
    obtain ⟨fu, rfl⟩ : ∃ m, fu = m + 1 := ⟨fu - 1, by omega⟩
    have e : k = 120 := by omega
    subst e
    have ew : w = fun j => if o ≤ j ∧ j < o + 120 then 0 else w0 j := funext hw
    have e103 : nI o + (103 : Int32) = nI (o + 103) := nI_add o 103
    have e105 : nI o + (105 : Int32) = nI (o + 105) := nI_add o 105
    have e106 : nI (o + 105) + (1 : Int32) = nI (o + 106) := nI_add (o + 105) 1
    have e107 : nI (o + 105) + (2 : Int32) = nI (o + 107) := nI_add (o + 105) 2
    have e108 : nI (o + 105) + (3 : Int32) = nI (o + 108) := nI_add (o + 105) 3
    have e109 : nI (o + 105) + (4 : Int32) = nI (o + 109) := nI_add (o + 105) 4
    have L := mk98 ho 5 FU 0 (upd (upd (upd (upd (upd (upd w (o + 103) 7) (o + 105) 3) (o + 106) 6) (o + 107) 8) (o + 108) 9) (o + 109) 10) (by omega) (FU1 (by omega))
    rw [f_X11_makeAnew_L2, if_pos (by decide), e103, e105, e106, e107, e108, e109]
    simp (disch := omega) only [gg, gg', nI_clamp]
    have L : f_X11_makeAnew_L98 FU (upd (upd (upd (upd (upd (upd w (o + 103) 7) (o + 105) 3) (o + 106) 6) (o + 107) 8) (o + 108) 9) (o + 109) 10) (nI o) (0 : Int32) = _ := L
    rw [L, ew]
    unfold anew
    rw [Nat.add_zero]
  | succ d ih =>
    intro fu k w hd hf hw
    obtain ⟨fu, rfl⟩ : ∃ m, fu = m + 1 := ⟨fu - 1, by omega⟩
    have n120 : ¬ (120 : Int32) ≤ nI k := nI_ge (a := k) (b := 120) (by omega) (by decide)
    rw [f_X11_makeAnew_L2, if_neg n120, nI_add, gg (by omega) (by omega), nI_clamp (by omega), nI_1]
    refine ih fu (k + 1) _ (by omega) (by omega) (fun j => ?_)
    by_cases q : j = o + k
    · subst q; rw [upd_s, if_pos ⟨by omega, by omega⟩]
    · rw [upd_n q, hw j]
      by_cases q2 : o ≤ j ∧ j < o + k
      · rw [if_pos q2, if_pos ⟨by omega, by omega⟩]
      · rw [if_neg q2, if_neg (by omega)]
theorem anew_eq {o : Nat} (ho : o + 120 ≤ 960) (w : Nat → Int32) : f_X11_makeAnew w (nI o) = some (anew w o) := by
  unfold f_X11_makeAnew
  exact mk2 (w0 := w) ho 120 FU 0 w (by omega) (FU1 (by omega)) (fun j => by rw [if_neg (by omega)])
theorem s0v : stF 0 0 = 0 ∧ stF 0 1 = 7 ∧ stF 0 2 = 0 ∧ stF 0 3 = 3 ∧ stF 0 4 = 6 ∧ stF 0 5 = 8 ∧ stF 0 6 = 9 ∧ stF 0 7 = 10 := by decide
theorem begin_ok (sg : HallV) (h3 : sg.1 3 = 1) (h4 : sg.1 4 = 1) {w : Nat → Int32} {nm : Nat → Int64} {o no : Nat} (ho : o + 120 ≤ 960) : ∃ v' : HallV, f_X1_begin sg = some v' ∧ HRel v' (anew w o) nm o no ∧ (∀ j, (j < o ∨ o + 120 ≤ j) → anew w o j = w j) ∧ v'.1 3 = 1 ∧ v'.1 4 = 1 := by
  obtain ⟨v', e1, e2, e3, e4, e5⟩ := bg28 8 FU 0 (hsR (hsR (hsR (hsD sg 0) 0 0) 1 0) 2 0) (by omega) (FU1 (by omega))
  have r3 : v'.1 3 = 1 := by rw [e2]; exact h3
  have r4 : v'.1 4 = 1 := by rw [e2]; exact h4
  have az : ∀ j, j < 120 → ¬ (103 = j ∨ (105 ≤ j ∧ j ≤ 114)) → anew w o (o + j) = 0 := by
    intro j hj hn
    unfold anew
    rw [if_neg (by omega), upd_n (by omega), upd_n (by omega), upd_n (by omega), upd_n (by omega), upd_n (by omega), upd_n (by omega), if_pos ⟨by omega, by omega⟩]
  have z0 : anew w o o = 0 := az 0 (by omega) (by omega)
  refine ⟨v', ?_, ⟨0, 0, 0, ⟨by omega, by omega, by omega⟩, ⟨by rw [e2]; rfl, z0⟩, ⟨by rw [e2]; rfl, az 73 (by omega) (by omega)⟩, ⟨by rw [e2]; rfl, az 89 (by omega) (by omega)⟩, ⟨r3, r4⟩, fun p hp => absurd hp (by omega), fun p hp => absurd hp (by omega), fun p hp => absurd hp (by omega), ?_, ?_, by rw [e3, az 115 (by omega) (by omega)]; rfl, ⟨0, az 115 (by omega) (by omega), by omega, by omega⟩⟩, ?_, r3, r4⟩
  · have e0 : ∀ y, y = nI 0 → f_X1_begin_L28 FU (hsR (hsR (hsR (hsD sg 0) 0 0) 1 0) 2 0) y = some v' := fun y hy => by rw [hy]; exact e1
    have f0 : ∀ r, f_X8_forgetAll r = some 0 := fun _ => rfl
    unfold f_X1_begin
    rw [f0, Option.bind_some, f0, Option.bind_some, f0, Option.bind_some, e0 0 rfl]
  · intro c hc
    have key : anew w o (o + 102 + c) = stF 0 c := by
      obtain ⟨k0, k1, k2, k3, k4, k5, k6, k7⟩ := s0v
      match c, hc with
      | 0, _ => rw [k0, show o + 102 + 0 = o + 102 from by omega]; exact az 102 (by omega) (by omega)
      | 1, _ =>
        rw [k1, show o + 102 + 1 = o + 103 from by omega]; unfold anew
        rw [if_neg (by omega), upd_n (by omega), upd_n (by omega), upd_n (by omega), upd_n (by omega), upd_n (by omega)]; exact upd_s
      | 2, _ => rw [k2, show o + 102 + 2 = o + 104 from by omega]; exact az 104 (by omega) (by omega)
      | 3, _ =>
        rw [k3, show o + 102 + 3 = o + 105 from by omega]; unfold anew
        rw [if_neg (by omega), upd_n (by omega), upd_n (by omega), upd_n (by omega), upd_n (by omega)]; exact upd_s
      | 4, _ =>
        rw [k4, show o + 102 + 4 = o + 106 from by omega]; unfold anew
        rw [if_neg (by omega), upd_n (by omega), upd_n (by omega), upd_n (by omega)]; exact upd_s
      | 5, _ =>
        rw [k5, show o + 102 + 5 = o + 107 from by omega]; unfold anew
        rw [if_neg (by omega), upd_n (by omega), upd_n (by omega)]; exact upd_s
      | 6, _ =>
        rw [k6, show o + 102 + 6 = o + 108 from by omega]; unfold anew
        rw [if_neg (by omega), upd_n (by omega)]; exact upd_s
      | 7, _ =>
        rw [k7, show o + 102 + 7 = o + 109 from by omega]; unfold anew
        rw [if_neg (by omega)]; exact upd_s
    rw [e4 c hc, if_pos (Nat.zero_le _), key]
    refine ⟨rfl, ?_⟩
    obtain ⟨k0, k1, k2, k3, k4, k5, k6, k7⟩ := s0v
    match c, hc with
    | 0, _ => rw [k0]; exact ⟨0, rfl, by decide, by decide⟩
    | 1, _ => rw [k1]; exact ⟨7, rfl, by decide, by decide⟩
    | 2, _ => rw [k2]; exact ⟨0, rfl, by decide, by decide⟩
    | 3, _ => rw [k3]; exact ⟨3, rfl, by decide, by decide⟩
    | 4, _ => rw [k4]; exact ⟨6, rfl, by decide, by decide⟩
    | 5, _ => rw [k5]; exact ⟨8, rfl, by decide, by decide⟩
    | 6, _ => rw [k6]; exact ⟨9, rfl, by decide, by decide⟩
    | 7, _ => rw [k7]; exact ⟨10, rfl, by decide, by decide⟩
  · intro c hc
    have key : anew w o (o + 110 + c) = -1 := by unfold anew; rw [if_pos ⟨by omega, by omega⟩]
    rw [e5 c hc, key]
    exact ⟨rfl, Or.inl rfl⟩
  · intro j hj
    unfold anew
    rw [if_neg (by omega), upd_n (by omega), upd_n (by omega), upd_n (by omega), upd_n (by omega), upd_n (by omega), upd_n (by omega), if_neg (by omega)]
