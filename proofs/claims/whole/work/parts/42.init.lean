/-! PURE 20: all rows, as they are made -/
theorem init7_l : (f_X7_init.map (fun q => (List.range 326).map q)) = some (allL.map nI) := by decide +kernel
theorem init7 : ∃ qa, f_X7_init = some qa ∧ ∀ j, j < 326 → qa j = nI (allL.getD j 0) := by
  have h := init7_l
  cases e : f_X7_init with
  | none => rw [e] at h; exact absurd h (by simp)
  | some qa =>
    refine ⟨qa, rfl, fun j hj => ?_⟩
    rw [e] at h
    have h2 : (List.range 326).map qa = allL.map nI := Option.some.inj h
    have h3 := congrArg (fun l => l[j]?) h2
    have hl : j < allL.length := by rw [allL_len]; exact hj
    simp only [List.getElem?_map, List.getElem?_range hj, List.getElem?_eq_getElem hl, Option.map_some] at h3
    rw [List.getD_eq_getElem?_getD, List.getElem?_eq_getElem hl]
    exact Option.some.inj h3
theorem init_rel : ∃ (q : HallV) (qa q11 : Nat → Int32), f_X1_init = some q ∧ f_X7_init = some qa ∧ f_X11_init = some q11 ∧ Rel q (0 : Int32) (0 : Int32) (fun _ => q) (fun _ => q) (0 : Int32) (fun _ => 0) q qa (fun _ => 0) (0 : Int32) (0 : Int64) (1 : Int64) (0 : Int32) (0 : Int32) (0 : Int32) q11 (fun _ => 0) (fun _ => 0) (fun _ => 0) (0 : Int32) (0 : Int32) (0 : Int64) (1 : Int64) (fun _ => 0) := by
  obtain ⟨v', e1, hH, _, r3, r4⟩ := begin_ok (hsR (hsR hall00 3 1) 4 1) rfl rfl (w := fun _ => 0) (nm := fun _ => 0) (o := 0) (no := 0) (by omega)
  obtain ⟨qa, e2, hqa⟩ := init7
  have ad : f_X8_addRow (1 : Int32) (0 : Int32) = some ((0 : Int32), (1 : Int32)) := by decide
  have an : f_X11_makeAnew (fun _ => 0) (0 : Int32) = some (anew (fun _ => 0) 0) := anew_eq (o := 0) (by omega) (fun _ => 0)
  refine ⟨v', qa, anew (fun _ => 0) 0, ?_, e2, ?_, hH, ⟨0, 0, by omega, by omega, rfl, rfl, rfl, fun j hj => absurd hj (Nat.not_lt_zero _)⟩, ⟨fun _ => false, rfl, fun i _ => ⟨rfl, fun (z : false = true) => absurd z Bool.false_ne_true⟩⟩, ⟨0, by omega, rfl, rfl, fun j hj => absurd hj (Nat.not_lt_zero _)⟩, ⟨r3, r4⟩, hqa, fun _ _ => rfl, ⟨rfl, rfl⟩, ⟨rfl, rfl, rfl⟩⟩
  · unfold f_X1_init
    have a3 : hall00.1 3 = (0 : Int32) := rfl
    have a4 : (hsR hall00 3 (1 : Int32)).1 4 = (0 : Int32) := rfl
    rw [a3, ad, Option.bind_some]
    show Option.bind (f_X8_addRow (1 : Int32) ((hsR hall00 3 (1 : Int32)).1 4)) _ = _
    rw [a4, ad, Option.bind_some]
    show Option.bind (f_X1_begin (hsR (hsR hall00 3 1) 4 1)) _ = _
    rw [e1, Option.bind_some]
  · unfold f_X11_init
    rw [an, Option.bind_some]
