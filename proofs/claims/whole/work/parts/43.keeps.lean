/-! PURE 21: what one keeps of a name said k times -/
theorem keeps_eq {v : HallV} {w : Nat → Int32} {nm : Nat → Int64} {M p k : Nat} (hr : HRel v w nm 0 0) (hM : v.1 0 = nI M) (hM12 : M ≤ 12) (hpM : p < M) (hk5 : k ≤ 5) : ∃ r : Nat, r ≤ 20 ∧ f_X3_leftOf v (nI p) (nI k) = some (nI r) ∧ f_X11_keeps w (nI p) (nI k) = some (nI r) := by
  obtain ⟨M', T, K, ⟨hM', hT, hK⟩, ⟨a1, a2⟩, ⟨b1, b2⟩, ⟨c1, c2⟩, hrows, hp, ht, hq, hs, hk, hd, hd2⟩ := id hr
  have e : M' = M := (nI_eq (by omega) (by omega)).mp (a1.symm.trans hM)
  subst e
  have hc := hp p hpM
  obtain ⟨s, hs20, e1, e2⟩ := held_eq hM' hpM hc hs hd hd2 (n := 0) (by omega)
  have e1 : f_X1_strengthLeft v (nI p) (0 : Int32) = some (nI s) := e1
  have e2 : f_X11_heldNow w (nI p) = some (nI s) := by
    unfold f_X11_heldNow
    have z : w 115 + nI 0 = w 115 := Int32.add_zero _
    rw [if_neg b115, c115, ← z, e2]; rfl
  unfold PRel at hc
  simp only [Nat.zero_add] at hc
  obtain ⟨-, -, -, ⟨q2, j2, u2, -, v2⟩, ⟨q3, j3, u3, -, v3⟩, -⟩ := hc
  have p3 : f_X1_partOf v (nI p) (3 : Int32) = some (nI j2) := by
    have e1 : f_X1_partOf v (nI p) (nI 3) = Option.bind (f_X8_number (7 : Int32) 84 (v.2.1 0) (nI p) (2 : Int32)) some := rfl
    have e1 : f_X1_partOf v (nI p) (3 : Int32) = _ := e1
    rw [e1, num_col (v := v) (p := p) (c := 2) (y := 2) (by omega) rfl (by omega), q2, i64_i32, u2]; rfl
  have p4 : f_X1_partOf v (nI p) (4 : Int32) = some (nI j3) := by
    have e1 : f_X1_partOf v (nI p) (nI 4) = Option.bind (f_X8_number (7 : Int32) 84 (v.2.1 0) (nI p) (3 : Int32)) some := rfl
    have e1 : f_X1_partOf v (nI p) (4 : Int32) = _ := e1
    rw [e1, num_col (v := v) (p := p) (c := 3) (y := 3) (by omega) rfl (by omega), q3, i64_i32, u3]; rfl
  have law : ∃ g : Nat, g ≤ 20 ∧ f_X1_law v (nI k) = some (nI g) ∧ (k = 0 → g = 0) ∧ (0 < k → w (104 + k) = nI g) := by
    by_cases z : k = 0
    · subst z
      exact ⟨0, by omega, by unfold f_X1_law; rw [if_pos (by decide)]; rfl, fun _ => rfl, fun h => absurd h (by omega)⟩
    · obtain ⟨s1, g, u, -, hg⟩ := hs (2 + k) (by omega)
      have hg : g ≤ 20 := by unfold sHi at hg; rw [if_neg (by omega), if_neg (by omega), if_neg (by omega)] at hg; exact hg
      rw [show 0 + 102 + (2 + k) = 104 + k from by omega] at s1 u
      refine ⟨g, hg, ?_, fun h => absurd h z, fun _ => u⟩
      unfold f_X1_law f_X1_setting
      rw [if_neg (nI_nle (by omega) (by omega)), show (2 : Int32) + nI k = nI (2 + k) from nI_add 2 k, num_at (wd := 8) (N := 8) (x := 0) (y := nI (2 + k)) 0 (2 + k) 8 rfl rfl rfl (by omega) (by decide), Nat.zero_mul, Nat.zero_add, s1, i64_i32, u]; rfl
  obtain ⟨g, hg, l1, l2, l3⟩ := law
  have le0 : nI k ≤ 0 ↔ k = 0 := by rw [show (0 : Int32) = nI 0 from rfl, nI_leI (by omega) (by omega)]; omega
  have eq0 : nI k = 0 ↔ k = 0 := by rw [show (0 : Int32) = nI 0 from rfl, nI_eq (by omega) (by omega)]
  have ej : nI j2 = nI j3 ↔ j2 = j3 := nI_eq (by omega) (by omega)
  have ej' : nI j3 = nI j2 ↔ j2 = j3 := ⟨fun z => (ej.mp z.symm), fun z => (ej.mpr z).symm⟩
  refine ⟨mn20 (s + g + if 0 < k ∧ j2 = j3 then 2 else 0), mn20_le _, ?_, ?_⟩
  · unfold f_X3_leftOf f_X3_leftOf_B20 f_X3_leftOf_B51 f_X3_leftOf_B52
    rw [p3, Option.bind_some, p4, Option.bind_some, e1, Option.bind_some, l1, Option.bind_some]
    simp only [le0, ej, one0, if_false, if_true, nI_add]
    have a0 : nI (s + g) + (0 : Int32) = nI (s + g + 0) := nI_add _ 0
    have a2 : nI (s + g) + (2 : Int32) = nI (s + g + 2) := nI_add _ 2
    rw [a0, a2, (mn20_c _ (by omega)).1, (mn20_c _ (by omega)).1]
    by_cases z : k = 0
    · have zn : ¬ 0 < k := by omega
      by_cases y : j2 = j3
      · simp [z, y]
      · simp [z, y]
        rw [nI_add]; exact (mn20_c _ (by omega)).1
    · have zp : 0 < k := by omega
      by_cases y : j2 = j3
      · simp [z, y, zp]
      · simp [z, y]
        rw [nI_add]; exact (mn20_c _ (by omega)).1
  · unfold f_X11_keeps f_X11_keeps_B19 f_X11_keeps_B49 f_X11_keeps_B50
    have m105 : (105 : Int32) + nI k = nI (105 + k) := nI_add 105 k
    have m1 : nI (105 + k) - (1 : Int32) = nI (104 + k) := by rw [show nI (105 + k) - (1 : Int32) = nI (105 + k - 1) from nI_sub (b := 1) (by omega)]; congr 1; omega
    have m25 : (25 : Int32) + nI p = nI (25 + p) := nI_add 25 p
    have m13 : (13 : Int32) + nI p = nI (13 + p) := nI_add 13 p
    rw [e2, Option.bind_some, m105, m1, m25, m13, gg (by omega) (by omega), gg (by omega) (by omega), gg (by omega) (by omega), nI_clamp (by omega), nI_clamp (by omega), nI_clamp (by omega), u2, u3]
    simp only [le0, eq0, ej', Option.bind_some]
    by_cases z : k = 0
    · have g0 := l2 z
      subst z g0
      rw [if_pos rfl, if_pos rfl]
      have a0 : nI s + (0 : Int32) + (0 : Int32) = nI s := by rw [Int32.add_zero, Int32.add_zero]
      rw [a0, (mn20_c s (by omega)).2]; simp
    · have zp : 0 < k := by omega
      rw [if_neg z, l3 zp, nI_add]
      have a0 : nI (s + g) + (0 : Int32) = nI (s + g + 0) := nI_add _ 0
      have a2 : nI (s + g) + (2 : Int32) = nI (s + g + 2) := nI_add _ 2
      rw [a0, a2, (mn20_c _ (by omega)).2, (mn20_c _ (by omega)).2]
      simp (disch := omega) only [gg, gg']
      by_cases y : j2 = j3
      · simp [z, y, zp]
      · simp [z, y]
