/-! PURE 12: one goes at a row -/
def kd (w : Nat → Int32) (t : Nat) : Nat := (w (74 + t)).toNatClampNeg
def sc (w : Nat → Int32) (t : Nat) : Nat := (w (79 + t)).toNatClampNeg
def es (w : Nat → Int32) (t : Nat) : Nat := (w (84 + t)).toNatClampNeg
/-- what a going reads -/
abbrev Goer (v : HallV) (w : Nat → Int32) (p T h lim : Nat) : Prop :=
  (T ≤ 5 ∧ v.1 1 = nI T ∧ w 73 = nI T) ∧
  (∀ t, t < T → (f_X8_number (3 : Int32) 15 (v.2.1 1) (nI t) (0 : Int32) = some (nI (kd w t)) ∧ w (74 + t) = nI (kd w t) ∧ kd w t ≤ 5) ∧ (f_X8_number (3 : Int32) 15 (v.2.1 1) (nI t) (1 : Int32) = some (nI (sc w t)) ∧ w (79 + t) = nI (sc w t) ∧ sc w t ≤ 20) ∧ (f_X8_number (3 : Int32) 15 (v.2.1 1) (nI t) (2 : Int32) = some (nI (es w t)) ∧ w (84 + t) = nI (es w t) ∧ es w t ≤ 20)) ∧
  (p < 12 ∧ h ≤ 20 ∧ f_X1_strengthLeft v (nI p) (0 : Int32) = some (nI h) ∧ f_X11_heldNow w (nI p) = some (nI h)) ∧
  (f_X1_setting v (0 : Int32) = some (w 102) ∧ f_X1_setting v (2 : Int32) = some (nI lim) ∧ w 104 = nI lim ∧ lim ≤ 60) ∧
  (f_X8_number (7 : Int32) 84 (v.2.1 0) (nI p) (2 : Int32) = some (w (13 + p)))
theorem HRel.goer {v : HallV} {w : Nat → Int32} {nm : Nat → Int64} {M p : Nat} (hr : HRel v w nm 0 0) (hM : v.1 0 = nI M) (hM12 : M ≤ 12) (hpM : p < M) : ∃ T h lim, Goer v w p T h lim := by
  obtain ⟨M', T, K, ⟨hM', hT, hK⟩, ⟨a1, a2⟩, ⟨b1, b2⟩, ⟨c1, c2⟩, hrows, hp, ht, hq, hs, hk, hd, hd2⟩ := id hr
  have e : M' = M := (nI_eq (by omega) (by omega)).mp (a1.symm.trans hM)
  subst e
  obtain ⟨h, hh, s1, s2⟩ := held_eq hM' hpM (hp p hpM) hs hd hd2 (n := 0) (by omega)
  have s2 : f_X11_heldNow w (nI p) = some (nI h) := by
    unfold f_X11_heldNow
    have z : w 115 + nI 0 = w 115 := Int32.add_zero _
    rw [if_neg b115, c115, ← z, s2]; rfl
  obtain ⟨st0, -⟩ := hs 0 (by decide)
  obtain ⟨st2, lim, sl, _, sl2⟩ := hs 2 (by decide)
  have hc := hp p hpM
  unfold PRel at hc
  simp only [Nat.zero_add] at *
  refine ⟨T, h, lim, ⟨hT, b1, b2⟩, ?_, ⟨by omega, hh, s1, s2⟩, ⟨?_, ?_, sl, sl2⟩, ?_⟩
  · intro t htT
    have := ht t htT
    unfold TRel at this
    simp only [Nat.zero_add] at this
    obtain ⟨⟨q1, k1, e1, _, l1⟩, ⟨q2, k2, e2, _, l2⟩, ⟨q3, k3, e3, _, l3⟩⟩ := this
    have f1 : kd w t = k1 := by unfold kd; rw [e1, nI_clamp (by omega)]
    have f2 : sc w t = k2 := by unfold sc; rw [e2, nI_clamp (by omega)]
    have f3 : es w t = k3 := by unfold es; rw [e3, nI_clamp (by omega)]
    rw [f1, f2, f3]
    refine ⟨⟨?_, e1, l1⟩, ⟨?_, e2, l2⟩, ⟨?_, e3, l3⟩⟩
    · rw [num_at (wd := 3) (N := 15) (x := nI t) (y := 0) t 0 3 rfl rfl rfl (by omega) (by decide), q1, i64_i32, e1]
    · rw [num_at (wd := 3) (N := 15) (x := nI t) (y := 1) t 1 3 rfl rfl rfl (by omega) (by decide), q2, i64_i32, e2]
    · rw [num_at (wd := 3) (N := 15) (x := nI t) (y := 2) t 2 3 rfl rfl rfl (by omega) (by decide), q3, i64_i32, e3]
  · unfold f_X1_setting
    rw [num_at (wd := 8) (N := 8) (x := 0) (y := 0) 0 0 8 rfl rfl rfl (by omega) (by decide), st0, i64_i32]; rfl
  · unfold f_X1_setting
    rw [num_at (wd := 8) (N := 8) (x := 0) (y := 2) 0 2 8 rfl rfl rfl (by omega) (by decide), Nat.zero_mul, Nat.zero_add, st2, i64_i32, sl]; rfl
  · rw [num_col (v := v) (p := p) (c := 2) (y := 2) (by omega) rfl (by omega), hc.2.2.2.1.1, i64_i32]
def mn20 (n : Nat) : Nat := if n < 20 then n else 20
theorem mn20_c (n : Nat) (h : n < 1000) : imin (20 : Int32) (nI n) = nI (mn20 n) ∧ f_X11_lesser (20 : Int32) (nI n) = some (nI (mn20 n)) := by
  unfold mn20 imin f_X11_lesser
  have l1 : nI n < (20 : Int32) ↔ n < 20 := nI_ltI (b := 20) (by omega) (by decide)
  have l2 : nI n ≤ (20 : Int32) ↔ n ≤ 20 := nI_leI (b := 20) (by omega) (by decide)
  simp only [l1, l2]
  by_cases q : n < 20
  · rw [if_pos q, if_pos q, if_pos (by omega)]; exact ⟨rfl, rfl⟩
  · rw [if_neg q, if_neg q]
    refine ⟨rfl, ?_⟩
    by_cases q2 : n ≤ 20
    · rw [if_pos q2, show n = 20 from by omega]
    · rw [if_neg q2]; rfl
theorem mn20_le (n : Nat) : mn20 n ≤ 20 := by unfold mn20; split <;> omega
def chN (w : Nat → Int32) (p h help t : Nat) : Nat :=
  if kd w t = 2 then (if w (13 + p) = w 102 then h * mn20 (es w t + help) else h * mn20 (es w t + help) / 2)
  else if kd w t = 3 then h * mn20 (es w t + help) / 2
  else if kd w t = 4 then 10 * mn20 (es w t + help)
  else if kd w t = 5 then 400
  else h * mn20 (es w t + help)
def fcN (w : Nat → Int32) (p h lim help secs : Nat) (na : Bool) (t : Nat) : Nat := if kd w t ≤ 2 ∧ na = false ∧ secs < lim then 400 else 400 - chN w p h help t
def hlN (w : Nat → Int32) (t : Nat) : Nat := if kd w t = 1 then 2 else if kd w t = 2 then 3 else 0
theorem chN_le {w : Nat → Int32} {p h help t : Nat} (hh : h ≤ 20) : chN w p h help t ≤ 400 := by
  have := mn20_le (es w t + help)
  have h2 : h * mn20 (es w t + help) ≤ 20 * 20 := Nat.mul_le_mul hh this
  unfold chN
  repeat' split
  all_goals omega
theorem fcN_le {w : Nat → Int32} {p h lim help secs : Nat} {na : Bool} {t : Nat} : fcN w p h lim help secs na t ≤ 400 := by
  unfold fcN
  split <;> omega
theorem ne_c {k : Nat} (c : Nat) (hk : k ≤ 5) (hc : c < 100) : nI k = Int32.ofNat c ↔ k = c := nI_eq (by omega) (by omega)
theorem chC {v : HallV} {w : Nat → Int32} {p T h lim help t : Nat} (G : Goer v w p T h lim) (ht : t < T) (hh : help ≤ 100) : f_X7_chance v (nI h) (nI help) (nI p) (nI t) (nI (kd w t)) = some (nI (chN w p h help t)) := by
  obtain ⟨-, hT, ⟨hp12, h20, -, -⟩, ⟨s0, -, -, -⟩, pc⟩ := G
  obtain ⟨⟨-, -, k5⟩, -, ⟨e1, -, e20⟩⟩ := hT t ht
  have m1 := mn20_le (es w t + help)
  have m2 : h * mn20 (es w t + help) ≤ 20 * 20 := Nat.mul_le_mul h20 m1
  have e2 : nI (kd w t) = (2 : Int32) ↔ kd w t = 2 := ne_c 2 k5 (by decide)
  have e3 : nI (kd w t) = (3 : Int32) ↔ kd w t = 3 := ne_c 3 k5 (by decide)
  have e4 : nI (kd w t) = (4 : Int32) ↔ kd w t = 4 := ne_c 4 k5 (by decide)
  have e5 : nI (kd w t) = (5 : Int32) ↔ kd w t = 5 := ne_c 5 k5 (by decide)
  have d2 : nI (h * mn20 (es w t + help)) / (2 : Int32) = nI (h * mn20 (es w t + help) / 2) := nI_div (b := 2) (by omega) (by decide)
  have t10 : (10 : Int32) * nI (mn20 (es w t + help)) = nI (10 * mn20 (es w t + help)) := nI_mul 10 _
  unfold f_X7_chance f_X7_chance_B86 chN
  rw [e1, Option.bind_some]
  simp only [e2, e3, e4, e5, pc, s0, Option.bind_some, nI_add, (mn20_c (es w t + help) (by omega)).1, nI_mul, d2, t10]
  by_cases q2 : kd w t = 2
  · rw [if_pos q2, if_pos q2]
    by_cases q : w (13 + p) = w 102
    · rw [if_pos q, if_pos q, if_neg (by decide)]
    · rw [if_neg q, if_neg q, if_pos trivial]
  · rw [if_neg q2, if_neg q2]
    by_cases q3 : kd w t = 3
    · rw [if_pos q3, if_pos q3]
    · rw [if_neg q3, if_neg q3]
      by_cases q4 : kd w t = 4
      · rw [if_pos q4, if_pos q4]
      · rw [if_neg q4, if_neg q4]
        by_cases q5 : kd w t = 5
        · rw [if_pos q5, if_pos q5]; rfl
        · rw [if_neg q5, if_neg q5]
theorem bI01 (b : Bool) : (bI b = 0 ∨ bI b = 1) := by cases b <;> decide
theorem tkC {v : HallV} {w : Nat → Int32} {p T h lim help secs m t : Nat} {na out : Bool} (G : Goer v w p T h lim) (ht : t < T) (hh : help ≤ 100) (hs : secs ≤ 1000) (hm : m ≤ 400 ^ 4) : f_X7_take v (nI h) (nI secs) (nI help) (bI na) (bI out) (lN (m * 400)) (nI p) (nI t) = some (nI (secs + sc w t), nI (help + hlN w t), bI (na || decide (kd w t = 3)), bI (out || decide (kd w t = 5)), lN (m * fcN w p h lim help secs na t)) := by
  have ch := chC G ht hh
  obtain ⟨-, hT, ⟨hp12, h20, -, -⟩, ⟨-, s2, -, hl⟩, pc⟩ := G
  obtain ⟨⟨kq, -, k5⟩, ⟨sq, -, s20⟩, -⟩ := hT t ht
  have c400 := chN_le (w := w) (p := p) (h := h) (help := help) (t := t) h20
  have e1 : nI (kd w t) = (1 : Int32) ↔ kd w t = 1 := ne_c 1 k5 (by decide)
  have e2 : nI (kd w t) = (2 : Int32) ↔ kd w t = 2 := ne_c 2 k5 (by decide)
  have e3 : nI (kd w t) = (3 : Int32) ↔ kd w t = 3 := ne_c 3 k5 (by decide)
  have e5 : nI (kd w t) = (5 : Int32) ↔ kd w t = 5 := ne_c 5 k5 (by decide)
  have l2 : (2 : Int32) < nI (kd w t) ↔ 2 < kd w t := nI_ltI (a := 2) (by decide) (by omega)
  have ll : nI secs < nI lim ↔ secs < lim := nI_ltI (by omega) (by omega)
  have h5 : m ≤ 25600000000 := hm
  have d4 : lN (m * 400) / (400 : Int64) = lN m := by
    rw [show (400 : Int64) = lN 400 from rfl, pk_lDiv (by omega) (by decide) (by decide), Nat.mul_div_cancel _ (by decide)]
  have b4 : ((400 : Int32) - nI (chN w p h help t)).toInt64 = lN (400 - chN w p h help t) := by
    rw [show (400 : Int32) - nI (chN w p h help t) = nI (400 - chN w p h help t) from nI_sub (a := 400) c400, nI_l (by omega)]
  have fin : ∀ r (n : Nat), f_X7_take_B119 v (nI h) (nI secs) (nI help) r (bI (out || decide (kd w t = 5))) (lN n) (nI t) (nI (kd w t)) = some (nI (secs + sc w t), nI (help + hlN w t), r, bI (out || decide (kd w t = 5)), lN n) := by
    intro r n
    unfold f_X7_take_B119 f_X7_take_B163 hlN
    rw [sq, Option.bind_some, nI_add]
    simp only [e1, e2]
    by_cases q1 : kd w t = 1
    · rw [if_pos q1, if_pos q1]; rw [show nI help + (2 : Int32) = nI (help + 2) from nI_add help 2]
    · rw [if_neg q1, if_neg q1]
      by_cases q2 : kd w t = 2
      · rw [if_pos q2, if_pos q2]; rw [show nI help + (3 : Int32) = nI (help + 3) from nI_add help 3]
      · rw [if_neg q2, if_neg q2]; rw [show nI help + (0 : Int32) = nI (help + 0) from nI_add help 0]
  have f92 : ∀ r, f_X7_take_B92 v (nI h) (nI secs) (nI help) r (bI (out || decide (kd w t = 5))) (lN (m * 400)) (nI p) (nI t) (nI (kd w t)) = some (nI (secs + sc w t), nI (help + hlN w t), r, bI (out || decide (kd w t = 5)), lN (m * (400 - chN w p h help t))) := by
    intro r
    unfold f_X7_take_B92
    rw [ch, Option.bind_some, d4, b4, lN_mul, fin]
  have f52 : ∀ na' : Bool, na' = (na || decide (kd w t = 3)) → f_X7_take_B52 v (nI h) (nI secs) (nI help) (bI na') (bI out) (lN (m * 400)) (nI p) (nI t) (nI (kd w t)) (bI (out || decide (kd w t = 5))) = some (nI (secs + sc w t), nI (help + hlN w t), bI na', bI (out || decide (kd w t = 5)), lN (m * fcN w p h lim help secs na t)) := by
    intro na' hna
    unfold f_X7_take_B52 f_X7_take_B72 f_X7_take_B73
    rw [if_pos (bI01 _), f92, s2, Option.bind_some]
    simp only [l2, ll, one0, if_true, if_false]
    unfold fcN
    by_cases q : 2 < kd w t
    · rw [if_pos q, if_neg (by omega)]
    · rw [if_neg q]
      have n3 : decide (kd w t = 3) = false := by simp; omega
      rw [n3, Bool.or_false] at hna
      subst hna
      cases na'
      · rw [if_pos (by rfl)]
        by_cases q2 : secs < lim
        · rw [if_pos q2, fin, if_pos ⟨by omega, rfl, q2⟩]
        · rw [if_neg q2, if_neg (fun z => q2 z.2.2)]
      · rw [if_neg (by decide), if_neg (fun z => absurd z.2.1 (by decide))]
  have f47 : ∀ r, f_X7_take_B47 v (nI h) (nI secs) (nI help) r (bI out) (lN (m * 400)) (nI p) (nI t) (nI (kd w t)) = f_X7_take_B52 v (nI h) (nI secs) (nI help) r (bI out) (lN (m * 400)) (nI p) (nI t) (nI (kd w t)) (bI true) := fun r => rfl
  have f30 : ∀ na' : Bool, na' = (na || decide (kd w t = 3)) → f_X7_take_B30 v (nI h) (nI secs) (nI help) (bI na) (bI out) (lN (m * 400)) (nI p) (nI t) (nI (kd w t)) (bI na') = some (nI (secs + sc w t), nI (help + hlN w t), bI na', bI (out || decide (kd w t = 5)), lN (m * fcN w p h lim help secs na t)) := by
    intro na' hna
    unfold f_X7_take_B30
    rw [if_pos (bI01 _), f47]
    simp only [e5]
    have := f52 na' hna
    cases out
    · rw [if_pos (by rfl)]
      by_cases q : kd w t = 5
      · rw [if_pos q]
        have e : decide (kd w t = 5) = true := by simp [q]
        rw [e] at this ⊢
        exact this
      · rw [if_neg q]
        have e : decide (kd w t = 5) = false := by simp [q]
        rw [e] at this ⊢
        exact this
    · rw [if_neg (by decide)]
      rw [Bool.true_or] at this ⊢
      exact this
  unfold f_X7_take
  rw [kq, Option.bind_some]
  simp only [e3]
  have f25 : f_X7_take_B25 v (nI h) (nI secs) (nI help) (bI na) (bI out) (lN (m * 400)) (nI p) (nI t) (nI (kd w t)) = f_X7_take_B30 v (nI h) (nI secs) (nI help) (bI na) (bI out) (lN (m * 400)) (nI p) (nI t) (nI (kd w t)) (bI true) := rfl
  rw [f25]
  cases na
  · rw [if_pos (by rfl)]
    by_cases q : kd w t = 3
    · rw [if_pos q, f30 true (by simp [q])]; simp [q]
    · rw [if_neg q]
      have := f30 false (by simp [q])
      have e : (false || decide (kd w t = 3)) = false := by simp [q]
      rw [e]
      exact this
  · rw [if_neg (by decide), f30 true (by simp)]; rfl

