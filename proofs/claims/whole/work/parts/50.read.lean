/-! PURE 28: reading -/
theorem name_no {x : Int64} (h : x = 0 ∨ x = -1) : f_X2_isName x = some 0 ∧ f_X11_isName x = some 0 := by
  obtain ⟨c, h1, h2, h3⟩ := isName_eq x
  cases c
  · exact ⟨h1, h2⟩
  · exfalso
    obtain ⟨m, L, e, l1, l2, b1, b2, _, _, _, _, d1⟩ := nm_facts (h3 rfl)
    have d0 := d1 0 (by omega)
    have m0 : 1 ≤ m := by
      by_cases z : m = 0
      · subst z
        simp at d0
      · omega
    rcases h with rfl | rfl
    · have := (pk_lEQ (a := 0) (b := m) (by decide) (by omega)).mp e
      omega
    · have e2 : (-1 : Int64).toInt = (lN m).toInt := congrArg Int64.toInt e
      rw [pk_lT (by omega)] at e2
      have e3 : (-1 : Int64).toInt = -1 := by decide
      omega
theorem tell_ok {dr : HallV} {w : Nat → Int32} {nm : Nat → Int64} {i v : Nat} {nu mn iw : Nat → Int32} {inm : Nat → Int64} {x : Int64} (H : HRel dr w nm 360 36) (hv : v < 5) (hi : i < 60) (hw : iw i = nI v) (hx : v = 0 → x = inm i ∨ (x = 0 ∧ inm i = -1)) (hnu : ∀ k, k < cnt v → nu k = mn (5 * i + k)) : ∃ (r : Int32) (d' : HallV) (w' : Nat → Int32) (nm' : Nat → Int64), f_X6_tellItem x dr nu (nI v) = some (r, d') ∧ f_X11_tellItem w nm iw inm mn (nI i) = some (r, w', nm') ∧ HRel d' w' nm' 360 36 ∧ (∀ j, (j < 360 ∨ 480 ≤ j) → w' j = w j) ∧ (∀ j, (j < 36 ∨ 48 ≤ j) → nm' j = nm j) := by
  have a0 : f_X10_at nu 5 (0 : Int32) = some (nu 0) := at_eq (k := 0) rfl (by decide) (by decide)
  have a1 : f_X10_at nu 5 (1 : Int32) = some (nu 1) := at_eq (k := 1) rfl (by decide) (by decide)
  have a2 : f_X10_at nu 5 (2 : Int32) = some (nu 2) := at_eq (k := 2) rfl (by decide) (by decide)
  have a3 : f_X10_at nu 5 (3 : Int32) = some (nu 3) := at_eq (k := 3) rfl (by decide) (by decide)
  have a4 : f_X10_at nu 5 (4 : Int32) = some (nu 4) := at_eq (k := 4) rfl (by decide) (by decide)
  have m0 : (5 : Int32) * nI i = nI (5 * i) := nI_mul 5 i
  have m1 : nI (5 * i) + (1 : Int32) = nI (5 * i + 1) := nI_add _ 1
  have m2 : nI (5 * i) + (2 : Int32) = nI (5 * i + 2) := nI_add _ 2
  have m3 : nI (5 * i) + (3 : Int32) = nI (5 * i + 3) := nI_add _ 3
  have m4 : nI (5 * i) + (4 : Int32) = nI (5 * i + 4) := nI_add _ 4
  have p0 : nI 0 = (0 : Int32) := rfl
  have p1 : nI 1 = (1 : Int32) := rfl
  have p2 : nI 2 = (2 : Int32) := rfl
  have p3 : nI 3 = (3 : Int32) := rfl
  unfold f_X6_tellItem f_X11_tellItem
  rw [a0, Option.bind_some, a1, Option.bind_some, a2, Option.bind_some, a3, a4, m0, m1, m2, m3, m4, gg (by omega) (by omega), gg (by omega) (by omega), gg (by omega) (by omega), gg (by omega) (by omega), nI_clamp (by omega), hw]
  have hcases : v = 0 ∨ v = 1 ∨ v = 2 ∨ v = 3 ∨ v = 4 := by omega
  rcases hcases with rfl | rfl | rfl | rfl | rfl
  · have n0 := hnu 0 (by decide)
    have n1 := hnu 1 (by decide)
    have n2 := hnu 2 (by decide)
    have n3 := hnu 3 (by decide)
    have n4 := hnu 4 (by decide)
    rw [Nat.add_zero] at n0
    obtain ⟨r, d', w', nm', h1, h2, h3, h4, h5, _⟩ := h_one H (by omega) (by omega) x (nu 0) (nu 1) (nu 2) (nu 3) (nu 4)
    have h2 : f_X11_addOne w nm (360 : Int32) x (nu 0) (nu 1) (nu 2) (nu 3) (nu 4) = some (r, w', nm') := h2
    have h2 : f_X11_addOne w nm (360 : Int32) (inm i) (nu 0) (nu 1) (nu 2) (nu 3) (nu 4) = some (r, w', nm') := by
      rcases hx rfl with e | ⟨e1, e2⟩
      · rw [← e]; exact h2
      · have y1 := (name_no (x := x) (Or.inl e1)).2
        have y2 := (name_no (x := inm i) (Or.inr e2)).2
        unfold f_X11_addOne at h2 ⊢
        rw [y1, Option.bind_some, if_pos rfl] at h2
        rw [y2, Option.bind_some, if_pos rfl]
        exact h2
    refine ⟨r, d', w', nm', ?_, ?_, h3, h4, h5⟩
    · rw [if_pos p0, Option.bind_some, Option.bind_some, h1] <;> rfl
    · rw [if_pos p0, gg' (by omega) (by omega), gg (by omega) (by omega), gg (by omega) (by omega), nI_clamp (by omega), nI_clamp (by omega), nI_clamp (by omega), nI_clamp (by omega), nI_clamp (by omega), ← n0, ← n1, ← n2, ← n3, ← n4, h2] <;> rfl
  · have n0 := hnu 0 (by decide)
    have n1 := hnu 1 (by decide)
    have n2 := hnu 2 (by decide)
    rw [Nat.add_zero] at n0
    obtain ⟨r, d', w', h1, h2, h3, h4, _⟩ := h_try H (by omega) (nu 0) (nu 1) (nu 2)
    have h2 : f_X11_oneTry w (360 : Int32) (nu 0) (nu 1) (nu 2) = some (r, w') := h2
    refine ⟨r, d', w', nm, ?_, ?_, h3, h4, fun _ _ => rfl⟩
    · rw [if_neg (by decide), if_pos p1, h1] <;> rfl
    · rw [if_neg (by decide), if_pos p1, nI_clamp (by omega), nI_clamp (by omega), nI_clamp (by omega), ← n0, ← n1, ← n2, h2] <;> rfl
  · have n0 := hnu 0 (by decide)
    have n1 := hnu 1 (by decide)
    rw [Nat.add_zero] at n0
    obtain ⟨r, d', w', h1, h2, h3, h4, _⟩ := h_question H (by omega) (nu 0) (nu 1)
    have h2 : f_X11_oneQuestion w (360 : Int32) (nu 0) (nu 1) = some (r, w') := h2
    refine ⟨r, d', w', nm, ?_, ?_, h3, h4, fun _ _ => rfl⟩
    · rw [if_neg (by decide), if_neg (by decide), if_pos p2, h1] <;> rfl
    · rw [if_neg (by decide), if_neg (by decide), if_pos p2, nI_clamp (by omega), nI_clamp (by omega), ← n0, ← n1, h2] <;> rfl
  · have n0 := hnu 0 (by decide)
    rw [Nat.add_zero] at n0
    obtain ⟨r, d', w', h1, h2, h3, h4, _⟩ := h_set H (by omega) (0 : Int32) (nu 0)
    have h2 : f_X11_set w (360 : Int32) (0 : Int32) (nu 0) = some (r, w') := h2
    refine ⟨r, d', w', nm, ?_, ?_, h3, h4, fun _ _ => rfl⟩
    · rw [if_neg (by decide), if_neg (by decide), if_neg (by decide), if_pos p3, h1] <;> rfl
    · rw [if_neg (by decide), if_neg (by decide), if_neg (by decide), if_pos p3, nI_clamp (by omega), ← n0, h2] <;> rfl
  · have n0 := hnu 0 (by decide)
    rw [Nat.add_zero] at n0
    obtain ⟨r, d', w', h1, h2, h3, h4, _⟩ := h_set H (by omega) (1 : Int32) (nu 0)
    have h2 : f_X11_set w (360 : Int32) (1 : Int32) (nu 0) = some (r, w') := h2
    refine ⟨r, d', w', nm, ?_, ?_, h3, h4, fun _ _ => rfl⟩
    · rw [if_neg (by decide), if_neg (by decide), if_neg (by decide), if_neg (by decide), h1] <;> rfl
    · rw [if_neg (by decide), if_neg (by decide), if_neg (by decide), if_neg (by decide), nI_clamp (by omega), ← n0, h2] <;> rfl
/-- an item told depends on its own places alone -/
theorem tell_c {w : Nat → Int32} {nm : Nat → Int64} {i : Nat} {mn mn' iw iw' : Nat → Int32} {inm inm' : Nat → Int64} (hi : i < 60) (h1 : iw' i = iw i) (h2 : inm' i = inm i) (h3 : ∀ k, k < 5 → mn' (5 * i + k) = mn (5 * i + k)) : f_X11_tellItem w nm iw' inm' mn' (nI i) = f_X11_tellItem w nm iw inm mn (nI i) := by
  have m0 : (5 : Int32) * nI i = nI (5 * i) := nI_mul 5 i
  have m1 : nI (5 * i) + (1 : Int32) = nI (5 * i + 1) := nI_add _ 1
  have m2 : nI (5 * i) + (2 : Int32) = nI (5 * i + 2) := nI_add _ 2
  have m3 : nI (5 * i) + (3 : Int32) = nI (5 * i + 3) := nI_add _ 3
  have m4 : nI (5 * i) + (4 : Int32) = nI (5 * i + 4) := nI_add _ 4
  have n0 := h3 0 (by decide)
  rw [Nat.add_zero] at n0
  unfold f_X11_tellItem
  rw [m0, m1, m2, m3, m4, nI_clamp (n := 5 * i) (by omega), nI_clamp (n := 5 * i + 1) (by omega), nI_clamp (n := 5 * i + 2) (by omega), nI_clamp (n := 5 * i + 3) (by omega), nI_clamp (n := 5 * i + 4) (by omega), nI_clamp (n := i) (by omega), h1, h2, n0, h3 1 (by decide), h3 2 (by decide), h3 3 (by decide), h3 4 (by decide)]
def tls (iw : Nat → Int32) (inm : Nat → Int64) (mn : Nat → Int32) (w : Nat → Int32) (nm : Nat → Int64) : Nat → Option ((Nat → Int32) × (Nat → Int64))
  | 0 => some (w, nm)
  | i + 1 => Option.bind (tls iw inm mn w nm i) (fun s => Option.bind (f_X11_tellItem s.1 s.2 iw inm mn (nI i)) (fun q => if 0 ≤ q.1 then some (q.2.1, q.2.2) else none))
theorem tls_c {w : Nat → Int32} {nm : Nat → Int64} {mn mn' iw iw' : Nat → Int32} {inm inm' : Nat → Int64} : ∀ i, i ≤ 60 → (∀ j, j < i → iw' j = iw j) → (∀ j, j < i → inm' j = inm j) → (∀ j, j < 5 * i → mn' j = mn j) → tls iw' inm' mn' w nm i = tls iw inm mn w nm i := by
  intro i
  induction i with
  | zero => intro _ _ _ _; rfl
  | succ i ih =>
    intro hi h1 h2 h3
    rw [tls, tls, ih (by omega) (fun j hj => h1 j (by omega)) (fun j hj => h2 j (by omega)) (fun j hj => h3 j (by omega))]
    congr 1
    funext s
    rw [tell_c (by omega) (h1 i (by omega)) (h2 i (by omega)) (fun k hk => h3 (5 * i + k) (by omega))]
theorem tls_s {w : Nat → Int32} {nm : Nat → Int64} {mn iw : Nat → Int32} {inm : Nat → Int64} {i : Nat} {s : (Nat → Int32) × (Nat → Int64)} (h : tls iw inm mn w nm (i + 1) = some s) : ∃ (s0 : (Nat → Int32) × (Nat → Int64)) (q : Int32 × (Nat → Int32) × (Nat → Int64)), tls iw inm mn w nm i = some s0 ∧ f_X11_tellItem s0.1 s0.2 iw inm mn (nI i) = some q ∧ 0 ≤ q.1 ∧ s = (q.2.1, q.2.2) := by
  rw [tls] at h
  cases h0 : tls iw inm mn w nm i with
  | none => rw [h0] at h; exact absurd h (by simp)
  | some s0 =>
    rw [h0, Option.bind_some] at h
    cases h1 : f_X11_tellItem s0.1 s0.2 iw inm mn (nI i) with
    | none => rw [h1] at h; exact absurd h (by simp)
    | some q =>
      rw [h1, Option.bind_some] at h
      by_cases g : 0 ≤ q.1
      · rw [if_pos g] at h
        exact ⟨s0, q, rfl, h1, g, (Option.some.inj h).symm⟩
      · rw [if_neg g] at h; exact absurd h (by simp)
theorem tls_pre {w : Nat → Int32} {nm : Nat → Int64} {mn iw : Nat → Int32} {inm : Nat → Int64} {k : Nat} : ∀ d s, tls iw inm mn w nm (k + d) = some s → ∃ s', tls iw inm mn w nm k = some s' := by
  intro d
  induction d with
  | zero => intro s h; exact ⟨s, h⟩
  | succ d ih =>
    intro s h
    obtain ⟨s0, q, h0, _⟩ := tls_s (i := k + d) h
    exact ih s0 h0
/-- the run over the items that were taken -/
theorem run62 {mt : Nat → Int32} {tx mundo mat mf : Int32} {w : Nat → Int32} {nm : Nat → Int64} {mn iw : Nat → Int32} {inm : Nat → Int64} {i I : Nat} {s : (Nat → Int32) × (Nat → Int64)} (hI : I ≤ 60) (hi : i ≤ I) (h : tls iw inm mn w nm i = some s) : ∀ d fu k s', k + d = i → tls iw inm mn w nm k = some s' → f_X11_read_L62 mt tx (fu + d) s'.1 s'.2 mundo iw inm mn (nI I) mat mf (nI k) = f_X11_read_L62 mt tx fu s.1 s.2 mundo iw inm mn (nI I) mat mf (nI i) := by
  intro d
  induction d with
  | zero =>
    intro fu k s' hk hs
    have e : k = i := by omega
    subst e
    rw [h] at hs
    rw [← Option.some.inj hs] <;> rfl
  | succ d ih =>
    intro fu k s' hk hs
    obtain ⟨s1, h1⟩ := tls_pre (k := k + 1) d s (by rw [show k + 1 + d = i from by omega]; exact h)
    obtain ⟨s0, q, g1, g2, g3, g4⟩ := tls_s h1
    rw [hs] at g1
    have e := Option.some.inj g1
    subst e
    have e1 := ih fu (k + 1) s1 (by omega) h1
    rw [show fu + (d + 1) = fu + d + 1 from rfl, f_X11_read_L62, if_neg (nI_ge (by omega) (by omega)), g2, Option.bind_some, if_pos g3, nI_1]
    rw [g4] at e1
    exact e1
abbrev Fr (w0 w : Nat → Int32) (nm0 nm : Nat → Int64) : Prop := (∀ j, (j < 360 ∨ 480 ≤ j) → w j = w0 j) ∧ (∀ j, (j < 36 ∨ 48 ≤ j) → nm j = nm0 j)
abbrev Gh (iw : Nat → Int32) (inm : Nat → Int64) (mn w0 : Nat → Int32) (nm0 : Nat → Int64) (i : Nat) (rf : Int32) (dr : HallV) : Prop :=
  (dr.1 3 = 1 ∧ dr.1 4 = 1) ∧ ((rf = -1 ∧ ∃ w nm, tls iw inm mn w0 nm0 i = some (w, nm) ∧ HRel dr w nm 360 36 ∧ Fr w0 w nm0 nm) ∨ (∃ (j : Nat) (s : (Nat → Int32) × (Nat → Int64)) (q : Int32 × (Nat → Int32) × (Nat → Int64)), j < i ∧ rf = nI j ∧ tls iw inm mn w0 nm0 j = some s ∧ f_X11_tellItem s.1 s.2 iw inm mn (nI j) = some q ∧ ¬ 0 ≤ q.1 ∧ Fr w0 q.2.1 nm0 q.2.2))
theorem HRel.r34 {v : HallV} {w : Nat → Int32} {nm : Nat → Int64} {o no : Nat} (h : HRel v w nm o no) : v.1 3 = 1 ∧ v.1 4 = 1 := by
  obtain ⟨M, T, K, _, _, _, _, hrows, _⟩ := h
  exact hrows
/-- one item more -/
theorem gh_next {iw : Nat → Int32} {inm inm' : Nat → Int64} {mn mn' w0 nu' : Nat → Int32} {nm0 : Nat → Int64} {i v : Nat} {rf a1 a2 a3 : Int32} {dr : HallV} {x : Int64} (G : Gh iw inm mn w0 nm0 i rf dr) (hv : v < 5) (hi : i < 60) (hx : v = 0 → x = inm' i ∨ (x = 0 ∧ inm' i = -1)) (hin : ∀ j, j < i → inm' j = inm j) (hnu : ∀ k, k < cnt v → nu' k = mn' (5 * i + k)) (hmn : ∀ j, j < 5 * i → mn' j = mn j) : ∃ (rf' : Int32) (dr' : HallV), tellR a1 a2 a3 x (nI i) rf dr nu' (nI v) = some (a1, a2, a3, x, nI (i + 1), (-1 : Int32), rf', dr', nu') ∧ Gh (upd iw i (nI v)) inm' mn' w0 nm0 (i + 1) rf' dr' := by
  have c : ∀ j, j ≤ i → tls (upd iw i (nI v)) inm' mn' w0 nm0 j = tls iw inm mn w0 nm0 j := fun j hj => tls_c j (by omega) (fun k hk => upd_n (by omega)) (fun k hk => hin k (by omega)) (fun k hk => hmn k (by omega))
  have ct : ∀ w nm j, j < i → f_X11_tellItem w nm (upd iw i (nI v)) inm' mn' (nI j) = f_X11_tellItem w nm iw inm mn (nI j) := fun w nm j hj => tell_c (by omega) (upd_n (by omega)) (hin j hj) (fun k hk => hmn _ (by omega))
  obtain ⟨g0, G⟩ := G
  rcases G with ⟨rfl, w, nm, h1, h2, h3, h4⟩ | ⟨j, s, q, hj, rfl, h1, h2, h3, h4⟩
  · obtain ⟨r, d', w', nm', t1, t2, t3, t4, t5⟩ := tell_ok (x := x) (nu := nu') (mn := mn') (iw := upd iw i (nI v)) (inm := inm') h2 hv hi upd_s hx hnu
    have fr : Fr w0 w' nm0 nm' := ⟨fun j hj => by rw [t4 j hj, h3 j hj], fun j hj => by rw [t5 j hj, h4 j hj]⟩
    unfold tellR
    rw [if_pos rfl, t1, Option.bind_some, nI_1]
    by_cases g : 0 ≤ r
    · refine ⟨-1, d', if_pos g, t3.r34, Or.inl ⟨rfl, w', nm', ?_, t3, fr⟩⟩
      rw [tls, c i (Nat.le_refl _), h1, Option.bind_some]
      show Option.bind (f_X11_tellItem w nm (upd iw i (nI v)) inm' mn' (nI i)) _ = _
      rw [t2, Option.bind_some]
      exact if_pos g
    · exact ⟨nI i, d', if_neg g, t3.r34, Or.inr ⟨i, (w, nm), (r, w', nm'), by omega, rfl, by rw [c i (Nat.le_refl _)]; exact h1, t2, g, fr⟩⟩
  · have n1 : ¬ nI j = -1 := nIm1 (by omega)
    unfold tellR
    rw [if_neg n1, nI_1]
    exact ⟨nI j, dr, rfl, g0, Or.inr ⟨j, s, q, by omega, rfl, by rw [c j (by omega)]; exact h1, by rw [ct _ _ j hj]; exact h2, h3, h4⟩⟩
/-- what the whole of it answers -/
abbrev Ans (now : HallV) (w0' : Nat → Int32) (nm0 : Nat → Int64) (mw : Nat → Int32) (mundo : Int32) (q : Int32 × HallV × Int32 × Int32 × Int32 × Int64 × Int32 × Int32 × Int32 × HallV × (Nat → Int32)) (q' : Int32 × (Nat → Int32) × (Nat → Int64) × Int32 × (Nat → Int32) × (Nat → Int64) × (Nat → Int32) × Int32 × Int32 × Int32) : Prop :=
  q.1 = q'.1 ∧ (q.2.2.2.2.2.2.2.2.2.1.1 3 = 1 ∧ q.2.2.2.2.2.2.2.2.2.1.1 4 = 1) ∧ ((q.1 < 0 ∧ q.2.1 = now ∧ q'.2.2.2.1 = mundo ∧ Fr mw q'.2.1 nm0 q'.2.2.1) ∨ (¬ q.1 < 0 ∧ q'.2.2.2.1 = 0 ∧ HRel q.2.1 q'.2.1 q'.2.2.1 0 0 ∧ (∀ j, (120 ≤ j ∧ j < 360 ∨ 480 ≤ j) → q'.2.1 j = mw j) ∧ (∀ j, (12 ≤ j ∧ j < 36 ∨ 48 ≤ j) → q'.2.2.1 j = nm0 j)))
theorem neg10 {f : Nat} (h : f ≤ 1000) : (-10 : Int32) - nI f < 0 ∧ (-1000 : Int32) - nI f < 0 := by
  have e1 : ((-10 : Int32) - nI f).toInt = -10 - (f : Int) := by
    rw [Int32.toInt_sub, nI_toInt (by omega), show (-10 : Int32).toInt = -10 from by decide]
    exact Int.bmod_eq_of_le (by omega) (by omega)
  have e2 : ((-1000 : Int32) - nI f).toInt = -1000 - (f : Int) := by
    rw [Int32.toInt_sub, nI_toInt (by omega), show (-1000 : Int32).toInt = -1000 from by decide]
    exact Int.bmod_eq_of_le (by omega) (by omega)
  rw [Int32.lt_iff_toInt_lt, Int32.lt_iff_toInt_lt, e1, e2, Int32.toInt_zero]
  omega
theorem rd_fault {n : Nat} {tby mt : Nat → Int32} {now : HallV} {mw : Nat → Int32} {nm0 : Nat → Int64} {mundo : Int32} {f : Nat} (hf : f ≤ 300) {a1 a2 a3 it rf x2 : Int32} {x : Int64} {dr : HallV} {nu iw mn : Nat → Int32} {inm : Nat → Int64} {mi mat : Int32} (hd : dr.1 3 = 1 ∧ dr.1 4 = 1) {fu fu' : Nat} (h0 : 0 < fu) (h0' : 0 < fu') : ∃ q q', f_X6_readInto_L33 (nI n) tby fu now a1 a2 a3 x it (nI f) rf dr nu x2 = some q ∧ f_X11_read_L15 mt (nI n) fu' mw nm0 mundo iw inm mn mi mat (nI f) = some q' ∧ Ans now mw nm0 mw mundo q q' := by
  obtain ⟨fu, rfl⟩ : ∃ m, fu = m + 1 := ⟨fu - 1, by omega⟩
  obtain ⟨fu', rfl⟩ : ∃ m, fu' = m + 1 := ⟨fu' - 1, by omega⟩
  have nf : ¬ nI f = -1 := nIm1 (by omega)
  have e1 : f_X6_readInto_B65 (nI n) tby now a1 a2 a3 x it (nI f) rf dr nu = some ((-10 : Int32) - nI f, now, a1, a2, a3, x, it, nI f, rf, dr, nu) := by
    unfold f_X6_readInto_B65
    rw [if_neg nf]
  have e2 : f_X11_read_B37 mt (nI n) mw nm0 mundo iw inm mn mi mat (nI f) = some ((-10 : Int32) - nI f, mw, nm0, mundo, iw, inm, mn, mi, mat, nI f) := by
    unfold f_X11_read_B37
    rw [if_neg nf]
  refine ⟨((-10 : Int32) - nI f, now, a1, a2, a3, x, it, nI f, rf, dr, nu), ((-10 : Int32) - nI f, mw, nm0, mundo, iw, inm, mn, mi, mat, nI f), ?_, ?_, rfl, hd, Or.inl ⟨(neg10 (by omega)).1, rfl, rfl, fun _ _ => rfl, fun _ _ => rfl⟩⟩
  · rw [f_X6_readInto_L33, if_neg nf, e1, ite_self, ite_self]
  · rw [f_X11_read_L15, if_neg nf, e2]
theorem rd_end {n : Nat} {tby mt : Nat → Int32} {now : HallV} {mw : Nat → Int32} {nm0 : Nat → Int64} {mundo : Int32} {i : Nat} (hi : i ≤ 60) {a1 a2 a3 rf mat : Int32} {x : Int64} {dr : HallV} {nu iw mn : Nat → Int32} {inm : Nat → Int64} (G : Gh iw inm mn (anew mw 360) nm0 i rf dr) : ∃ q q', f_X6_readInto_B65 (nI n) tby now a1 a2 a3 x (nI i) (-1 : Int32) rf dr nu = some q ∧ f_X11_read_B37 mt (nI n) mw nm0 mundo iw inm mn (nI i) mat (-1 : Int32) = some q' ∧ Ans now mw nm0 mw mundo q q' := by
  have an : f_X11_makeAnew mw (360 : Int32) = some (anew mw 360) := anew_eq (o := 360) (by omega) mw
  have af : ∀ j, (j < 360 ∨ 480 ≤ j) → anew mw 360 j = mw j := fun j hj => by
    obtain ⟨_, _, _, b3, _⟩ := begin_ok (hsR (hsR hall00 3 1) 4 1) rfl rfl (w := mw) (nm := nm0) (o := 360) (no := 36) (by omega)
    exact b3 j hj
  obtain ⟨g0, G⟩ := G
  unfold f_X6_readInto_B65 f_X11_read_B37
  rw [if_pos rfl, if_pos rfl, an, Option.bind_some]
  rcases G with ⟨rfl, w, nm, h1, h2, h3, h4⟩ | ⟨j, s, q, hj, rfl, h1, h2, h3, h4, h5⟩
  · obtain ⟨v', eb, hv'⟩ := become_ok now dr
    have r := run62 (mt := mt) (tx := nI n) (mundo := mundo) (mat := mat) (mf := (-1 : Int32)) (I := i) hi (Nat.le_refl _) h1 i (FU - i) 0 (anew mw 360, nm0) (by omega) rfl
    have r : f_X11_read_L62 mt (nI n) (FU - i + i) (anew mw 360) nm0 mundo iw inm mn (nI i) mat (-1 : Int32) (0 : Int32) = f_X11_read_L62 mt (nI n) (FU - i) w nm mundo iw inm mn (nI i) mat (-1 : Int32) (nI i) := r
    have ef : FU - i + i = FU := Nat.sub_add_cancel (Nat.le_of_lt (FU1 (by omega)))
    rw [ef] at r
    obtain ⟨m, hm⟩ : ∃ m, FU - i = m + 1 := ⟨FU - i - 1, by have := FU1 (n := i) (by omega); omega⟩
    have r2 : f_X11_read_L62 mt (nI n) (m + 1) w nm mundo iw inm mn (nI i) mat (-1 : Int32) (nI i) = some (nI i, cpN w (120 * 3) (120 * 0) 120, cpN nm (12 * 3) (12 * 0) 12, (0 : Int32), iw, inm, mn, nI i, mat, (-1 : Int32)) := by
      rw [f_X11_read_L62, if_pos (Int32.le_refl _), copy_eq (x := 360) (y := 0) 3 0 (by omega) (by omega) rfl rfl, Option.bind_some]
    rw [hm, r2] at r
    rw [if_pos rfl, eb, Option.bind_some, r]
    have hn : HRel v' (cpN w (120 * 3) (120 * 0) 120) (cpN nm (12 * 3) (12 * 0) 12) 0 0 := by
      refine (hv' h2).mv (fun j hj => ?_) (fun j hj => ?_)
      · rw [show 0 + j = 120 * 0 + j from by omega, cp_in hj]
      · rw [show 0 + j = 12 * 0 + j from by omega, cp_in hj]
    refine ⟨_, _, rfl, rfl, rfl, g0, Or.inr ⟨nI_pos (by omega), rfl, hn, fun j hj => ?_, fun j hj => ?_⟩⟩
    · show cpN w (120 * 3) (120 * 0) 120 j = mw j
      rw [cp_out (by omega), h3 j (by omega), af j (by omega)]
    · show cpN nm (12 * 3) (12 * 0) 12 j = nm0 j
      rw [cp_out (by omega), h4 j (by omega)]
  · have n1 : ¬ nI j = -1 := nIm1 (by omega)
    have r := run62 (mt := mt) (tx := nI n) (mundo := mundo) (mat := mat) (mf := (-1 : Int32)) (I := i) hi (Nat.le_of_lt hj) h1 j (FU - j) 0 (anew mw 360, nm0) (by omega) rfl
    have r : f_X11_read_L62 mt (nI n) (FU - j + j) (anew mw 360) nm0 mundo iw inm mn (nI i) mat (-1 : Int32) (0 : Int32) = f_X11_read_L62 mt (nI n) (FU - j) s.1 s.2 mundo iw inm mn (nI i) mat (-1 : Int32) (nI j) := r
    have ef : FU - j + j = FU := Nat.sub_add_cancel (Nat.le_of_lt (FU1 (by omega)))
    rw [ef] at r
    obtain ⟨m, hm⟩ : ∃ m, FU - j = m + 1 := ⟨FU - j - 1, by have := FU1 (n := j) (by omega); omega⟩
    have r2 : f_X11_read_L62 mt (nI n) (m + 1) s.1 s.2 mundo iw inm mn (nI i) mat (-1 : Int32) (nI j) = some ((-1000 : Int32) - nI j, q.2.1, q.2.2, mundo, iw, inm, mn, nI i, mat, (-1 : Int32)) := by
      rw [f_X11_read_L62, if_neg (nI_ge (by omega) (by omega)), h2, Option.bind_some, if_neg h3]
    rw [hm, r2] at r
    rw [if_neg n1, r]
    exact ⟨_, _, rfl, rfl, rfl, g0, Or.inl ⟨(neg10 (f := j) (by omega)).2, rfl, rfl, fun k hk => by rw [h4 k hk, af k hk], h5⟩⟩
set_option maxHeartbeats 1000000 in
theorem rd_L {n : Nat} {tby mt : Nat → Int32} {c : Nat → Nat} (T : Txt n tby mt c) {now : HallV} {mw : Nat → Int32} {nm0 : Nat → Int64} {mundo : Int32} : ∀ d i b (rf : Int32) (x : Int64) (dr : HallV) (nu iw mn : Nat → Int32) (inm : Nat → Int64) fu fu', b + d = n → 5 * i ≤ b → d + 1 < fu → d + 1 < fu' → Gh iw inm mn (anew mw 360) nm0 i rf dr → ∃ q q', f_X6_readInto_L33 (nI n) tby fu now (nI (tk c n b)) (nI (sk c n b)) (nI (te c n b)) x (nI i) (-1 : Int32) rf dr nu (nI i) = some q ∧ f_X11_read_L15 mt (nI n) fu' mw nm0 mundo iw inm mn (nI i) (nI b) (-1 : Int32) = some q' ∧ Ans now mw nm0 mw mundo q q' := by
  have hn := T.1
  intro d
  induction d using Nat.strongRecOn with
  | _ d ih =>
    intro i b rf x dr nu iw mn inm fu fu' hb hib hf hf' G
    obtain ⟨fu, rfl⟩ : ∃ m, fu = m + 1 := ⟨fu - 1, by omega⟩
    obtain ⟨fu', rfl⟩ : ∃ m, fu' = m + 1 := ⟨fu' - 1, by omega⟩
    have hbn : b ≤ n := by omega
    have hs := sk_le (c := c) hbn
    have n300 : ¬ (300 : Int32) ≤ nI i := nI_ge (b := 300) (by omega) (by decide)
    have eM1 : sk c n b = n → f_X11_read_L15 mt (nI n) (fu' + 1) mw nm0 mundo iw inm mn (nI i) (nI b) (-1 : Int32) = f_X11_read_B37 mt (nI n) mw nm0 mundo iw inm mn (nI i) (nI (sk c n b)) (-1 : Int32) := fun q => by
      rw [f_X11_read_L15, if_pos rfl, end_eq T hbn, if_pos q, Option.bind_some]
      exact if_neg n10
    have eM2 : ¬ sk c n b = n → f_X11_read_L15 mt (nI n) (fu' + 1) mw nm0 mundo iw inm mn (nI i) (nI b) (-1 : Int32) = Option.bind (f_X11_takeItem mt (nI n) iw inm mn (nI i) (nI (sk c n b)) (-1 : Int32)) (fun q31 => f_X11_read_L15 mt (nI n) fu' mw nm0 mundo q31.1 q31.2.1 q31.2.2.1 q31.2.2.2.1 q31.2.2.2.2.1 q31.2.2.2.2.2) := fun q => by
      rw [f_X11_read_L15, if_pos rfl, end_eq T hbn, if_neg q, Option.bind_some]
      exact if_pos rfl
    rw [f_X6_readInto_L33, if_neg n300]
    by_cases q : sk c n b = n
    · have t0 : tk c n b = 0 := by unfold tk; rw [if_pos (by omega)]
      have z0 : nI (tk c n b) = 0 := by rw [t0] <;> rfl
      rw [if_pos z0, eM1 q]
      exact rd_end (by omega) G
    · have hsn : sk c n b < n := by omega
      have z0 : ¬ nI (tk c n b) = 0 := by
        have t : ¬ tk c n b = 0 ∧ tk c n b < 5 := by
          unfold tk
          rw [if_neg (by omega)]
          split
          · decide
          · split
            · split <;> decide
            · split <;> decide
        exact fun z => t.1 ((nI_eq (b := 0) (by omega) (by omega)).mp z)
      rw [if_neg z0, if_pos rfl, eM2 q]
      have key : ∃ q q', Option.bind (f_X6_readItem (nI n) tby (nI (tk c n b)) (nI (sk c n b)) (nI (te c n b)) x (nI i) (-1 : Int32) rf dr nu) (fun q56 => f_X6_readInto_L33 (nI n) tby fu now q56.1 q56.2.1 q56.2.2.1 q56.2.2.2.1 q56.2.2.2.2.1 q56.2.2.2.2.2.1 q56.2.2.2.2.2.2.1 q56.2.2.2.2.2.2.2.1 q56.2.2.2.2.2.2.2.2 (nI i + (1 : Int32))) = some q ∧ Option.bind (f_X11_takeItem mt (nI n) iw inm mn (nI i) (nI (sk c n b)) (-1 : Int32)) (fun q31 => f_X11_read_L15 mt (nI n) fu' mw nm0 mundo q31.1 q31.2.1 q31.2.2.1 q31.2.2.2.1 q31.2.2.2.2.1 q31.2.2.2.2.2) = some q' ∧ Ans now mw nm0 mw mundo q q' := by
        rcases item_or T (i := i) (b := b) (by omega) hbn hsn (nm := x) (it := nI i) (rf := rf) (dr := dr) (nu := nu) (iw := iw) (mn := mn) (inm := inm) with ⟨f, p, p', h1, h2, h3, h4, h5, h6⟩ | ⟨bn, v, x', nu', mn', inm', h1, h2, h3, h4, h5, h6, h7, h8, h9⟩
        · rw [h2, Option.bind_some, h5, Option.bind_some, h3, h4, h6]
          exact rd_fault h1 G.1 (by omega) (by omega)
        · obtain ⟨rf', dr', g1, g2⟩ := gh_next (a1 := nI (tk c n bn)) (a2 := nI (sk c n bn)) (a3 := nI (te c n bn)) G h1 (by omega) h6 h7 h8 h9
          rw [h4, g1, Option.bind_some, h5, Option.bind_some, nI_1]
          exact ih (n - bn) (by omega) (i + 1) bn rf' x' dr' nu' (upd iw i (nI v)) mn' inm' fu fu' (by omega) (by omega) (by omega) (by omega) g2
      exact key
theorem rtext_c {tl tx : Int32} {tby mt : Nat → Int32} (h : RText tl tby mt tx) : ∃ (n : Nat) (c : Nat → Nat), tl = nI n ∧ tx = nI n ∧ Txt n tby mt c := by
  obtain ⟨n, h1, h2, h3, h4⟩ := h
  refine ⟨n, fun j => (mt j).toNatClampNeg, h2, h3, h1, fun j hj => ?_⟩
  obtain ⟨e, k, k1, k2, k3⟩ := h4 j hj
  have ek : (mt j).toNatClampNeg = k := by rw [k1, nI_clamp (by omega)]
  show _ = nI (mt j).toNatClampNeg ∧ mt j = nI (mt j).toNatClampNeg ∧ (mt j).toNatClampNeg ≤ 255
  rw [ek, e, k1]
  exact ⟨rfl, rfl, k3⟩
theorem r_read {keptImages : Int32} {fab : Int64} {fbe : Int64} {bads : Int32} {noes : Int32} {fulls : Int32} {now : HallV} {bl : Int32} {kp : Int32} {ring : Nat → HallV} {imgs : Nat → HallV} {tlen : Int32} {tby : Nat → Int32} {rkind : Int32} {rstart : Int32} {rbehind : Int32} {rname : Int64} {ritems : Int32} {rfault : Int32} {rrefused : Int32} {draft : HallV} {rnums : Nat → Int32} {rall : Nat → Int32} {nmost : Nat → Int32} {mw : Nat → Int32} {mnames : Nat → Int64} {mkept : Nat → Int32} {mtext : Nat → Int32} {mtexted : Int32} {mundo : Int32} {mabove : Int64} {mbelow : Int64} {mrefused : Nat → Int32} {miword : Nat → Int32} {miname : Nat → Int64} {mnumber : Nat → Int32} {mitems : Int32} {mat : Int32} {mfault : Int32} (hR : Rel now bl kp ring imgs tlen tby draft rall nmost keptImages fab fbe bads noes fulls mw mnames mkept mtext mtexted mundo mabove mbelow mrefused)  : ∃ (q : Int32 × HallV × Int32 × Int32 × Int32 × Int32 × Int64 × Int32 × Int32 × Int32 × HallV × (Nat → Int32)) (q' : Int32 × (Nat → Int32) × (Nat → Int64) × Int32 × (Nat → Int32) × (Nat → Int64) × (Nat → Int32) × Int32 × Int32 × Int32), f_X10_read now kp tlen tby rkind rstart rbehind rname ritems rfault rrefused draft rnums = some q ∧ f_X11_read mw mnames mtext mtexted mundo miword miname mnumber mitems mat mfault = some q' ∧ q.1 = q'.1 ∧ Rel q.2.1 bl q.2.2.1 ring imgs tlen tby q.2.2.2.2.2.2.2.2.2.2.1 rall nmost keptImages fab fbe bads noes fulls q'.2.1 q'.2.2.1 mkept mtext mtexted q'.2.2.2.1 mabove mbelow mrefused := by
  obtain ⟨h1, ⟨B, K, hB, hK, p1, p2, p3, p4⟩, ⟨bb, hk, hi⟩, h4, h5, h6, h7, h8, h9⟩ := id hR
  obtain ⟨n, c, t1, t2, T⟩ := rtext_c h4
  subst t1 t2
  obtain ⟨d0, e1, H0, f0, r3, r4⟩ := begin_ok draft h5.1 h5.2 (w := mw) (nm := mnames) (o := 360) (no := 36) (by omega)
  have hn := T.1
  obtain ⟨q, q', a1, a2, a3, a4, a5⟩ := rd_L T (now := now) (mw := mw) (nm0 := mnames) (mundo := mundo) n 0 0 (-1) rname d0 rnums miword mnumber miname FU FU (by omega) (by omega) (FU1 (by omega)) (FU1 (by omega)) ⟨⟨r3, r4⟩, Or.inl ⟨rfl, anew mw 360, mnames, rfl, H0, fun _ _ => rfl, fun _ _ => rfl⟩⟩
  have s0 : f_X6_step (nI n) tby rkind rstart (0 : Int32) = some (nI (tk c n 0), nI (sk c n 0), nI (te c n 0)) := step_eq T rkind rstart (b := 0) (by omega)
  have ri : f_X6_readInto now (nI n) tby rkind rstart rbehind rname ritems rfault rrefused draft rnums = some q := by
    unfold f_X6_readInto
    rw [e1, Option.bind_some, s0, Option.bind_some]
    exact a1
  have rm : f_X11_read mw mnames mtext (nI n) mundo miword miname mnumber mitems mat mfault = some q' := a2
  unfold f_X10_read f_X5_forget
  rw [ri, Option.bind_some]
  rcases a5 with ⟨g1, g2, g3, g4, g5⟩ | ⟨g1, g2, g3, g4, g5⟩
  · rw [if_pos g1]
    refine ⟨_, q', rfl, rm, a3, ?_⟩
    show Rel q.2.1 bl kp ring imgs (nI n) tby q.2.2.2.2.2.2.2.2.2.1 rall nmost keptImages fab fbe bads noes fulls q'.2.1 q'.2.2.1 mkept mtext (nI n) q'.2.2.2.1 mabove mbelow mrefused
    rw [g2, g3]
    exact ⟨h1.fr (fun j _ hj => g4 j (by omega)) (fun j _ hj => g5 j (by omega)), ⟨B, K, hB, hK, p1, p2, p3, fun j hj => (p4 j hj).fr (fun i k1 k2 => g4 i (by omega)) (fun i k1 k2 => g5 i (by omega))⟩, ⟨bb, hk, fun i hi2 => ⟨(hi i hi2).1, fun hb => ((hi i hi2).2 hb).fr (fun j k1 k2 => g4 j (by omega)) (fun j k1 k2 => g5 j (by omega))⟩⟩, h4, a4, h6, h7, h8, h9⟩
  · rw [if_neg g1, Option.bind_some]
    refine ⟨_, q', rfl, rm, a3, ?_⟩
    show Rel q.2.1 bl (0 : Int32) ring imgs (nI n) tby q.2.2.2.2.2.2.2.2.2.1 rall nmost keptImages fab fbe bads noes fulls q'.2.1 q'.2.2.1 mkept mtext (nI n) q'.2.2.2.1 mabove mbelow mrefused
    rw [g2]
    exact ⟨g3, ⟨B, 0, hB, by omega, p1, rfl, rfl, fun j hj => absurd hj (Nat.not_lt_zero _)⟩, ⟨bb, hk, fun i hi2 => ⟨(hi i hi2).1, fun hb => ((hi i hi2).2 hb).fr (fun j k1 k2 => g4 j (by omega)) (fun j k1 k2 => g5 j (by omega))⟩⟩, h4, a4, h6, h7, h8, h9⟩
