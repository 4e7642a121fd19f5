/-! PURE 13: the figures of a row, both goings -/
def dgt (x j : Nat) : Nat := x / 10 ^ (4 - j) % 10
def stp (w : Nat → Int32) (p h lim x : Nat) : Nat → Nat × Nat × Bool × Bool × Nat
  | 0 => (0, 0, false, false, 1)
  | j + 1 => if dgt x j = 0 then ((stp w p h lim x j).1, (stp w p h lim x j).2.1, (stp w p h lim x j).2.2.1, (stp w p h lim x j).2.2.2.1, (stp w p h lim x j).2.2.2.2 * 400)
    else ((stp w p h lim x j).1 + sc w (dgt x j - 1), (stp w p h lim x j).2.1 + hlN w (dgt x j - 1), (stp w p h lim x j).2.2.1 || decide (kd w (dgt x j - 1) = 3), (stp w p h lim x j).2.2.2.1 || decide (kd w (dgt x j - 1) = 5), (stp w p h lim x j).2.2.2.2 * fcN w p h lim (stp w p h lim x j).2.1 (stp w p h lim x j).1 (stp w p h lim x j).2.2.1 (dgt x j - 1))
theorem hlN_le (w : Nat → Int32) (t : Nat) : hlN w t ≤ 3 := by
  unfold hlN
  repeat' split
  all_goals omega
theorem stp_b {v : HallV} {w : Nat → Int32} {p T h lim x : Nat} (G : Goer v w p T h lim) : ∀ j, j ≤ 5 → (∀ i, i < j → dgt x i ≤ T) → (stp w p h lim x j).1 ≤ 20 * j ∧ (stp w p h lim x j).2.1 ≤ 3 * j ∧ (stp w p h lim x j).2.2.2.2 ≤ 400 ^ j := by
  intro j
  induction j with
  | zero => intro _ _; exact ⟨Nat.le_refl _, Nat.le_refl _, Nat.le_refl _⟩
  | succ j ih =>
    intro hj hd
    obtain ⟨i1, i2, i3⟩ := ih (by omega) (fun i hi => hd i (by omega))
    rw [stp, Nat.pow_succ]
    by_cases z : dgt x j = 0
    · rw [if_pos z]
      dsimp only
      exact ⟨by omega, by omega, Nat.mul_le_mul i3 (Nat.le_refl _)⟩
    · rw [if_neg z]
      have hb := (G.2.1 (dgt x j - 1) (by have := hd j (by omega); omega)).2.1.2.2
      have hl := hlN_le w (dgt x j - 1)
      dsimp only
      exact ⟨by omega, by omega, Nat.mul_le_mul i3 fcN_le⟩
theorem goB {v : HallV} {w : Nat → Int32} {p T h lim help secs m t j x : Nat} {x3 : Int32} {na : Bool} {rL : Int32 → Int64 → Int32 → Int32 → Int32 → Int32 → Int32 → Int32 → Option (Int32 × Int64)} (G : Goer v w p T h lim) (ht : t < T) (hh : help ≤ 100) (hs : secs ≤ 1000) :
    f_X11_go_B130 w rL (nI secs) (lN m) (nI p) (nI x) x3 (nI help) (bI na) (nI j) (nI t) (nI (kd w t)) (nI (if kd w t = 5 then 400 else if kd w t = 4 then 10 * mn20 (es w t + help) else h * mn20 (es w t + help))) = rL (nI (secs + sc w t)) (lN (m * fcN w p h lim help secs na t)) (nI p) (nI x) x3 (nI (help + hlN w t)) (bI (na || decide (kd w t = 3))) (nI (j + 1)) := by
  obtain ⟨-, hT, ⟨hp12, h20, -, -⟩, ⟨-, -, s2, hl⟩, pc⟩ := id G
  have hT5 := G.1.1
  obtain ⟨⟨-, -, k5⟩, ⟨-, sq, s20⟩, -⟩ := hT t ht
  have c400 := chN_le (w := w) (p := p) (h := h) (help := help) (t := t) h20
  have e1 : nI (kd w t) = (1 : Int32) ↔ kd w t = 1 := ne_c 1 k5 (by decide)
  have e2 : nI (kd w t) = (2 : Int32) ↔ kd w t = 2 := ne_c 2 k5 (by decide)
  have e3 : nI (kd w t) = (3 : Int32) ↔ kd w t = 3 := ne_c 3 k5 (by decide)
  have l3 : (3 : Int32) ≤ nI (kd w t) ↔ 3 ≤ kd w t := nI_leI (a := 3) (by decide) (by omega)
  have ll : nI lim ≤ nI secs ↔ lim ≤ secs := nI_leI (by omega) (by omega)
  have m79 : (79 : Int32) + nI t = nI (79 + t) := nI_add 79 t
  have m13 : (13 : Int32) + nI p = nI (13 + p) := nI_add 13 p
  have g104 : ¬ ((104 : Int32) < 0 ∨ 960 ≤ (104 : Int32).toNatClampNeg) ∧ (104 : Int32).toNatClampNeg = 104 := by decide
  have g102 : ¬ ((102 : Int32) < 0 ∨ 960 ≤ (102 : Int32).toNatClampNeg) ∧ (102 : Int32).toNatClampNeg = 102 := by decide
  have f285 : ∀ mm hp (b : Bool), f_X11_go_B285 w rL (nI secs) mm (nI p) (nI x) x3 hp (nI j) (nI t) (bI b) = rL (nI (secs + sc w t)) mm (nI p) (nI x) x3 hp (bI b) (nI (j + 1)) := by
    intro mm hp b
    unfold f_X11_go_B285 f_X11_go_B306
    rw [m79, gg (by omega) (by omega), nI_clamp (by omega), sq, nI_add, nI_1]
  have f266 : ∀ mm (s : Nat), f_X11_go_B266 w rL (nI secs) mm (nI p) (nI x) x3 (bI na) (nI j) (nI t) (nI (kd w t)) (nI help) (nI s) = rL (nI (secs + sc w t)) mm (nI p) (nI x) x3 (nI (help + s)) (bI (na || decide (kd w t = 3))) (nI (j + 1)) := by
    intro mm s
    have b1 : ∀ mm hp, f_X11_go_B280 w rL (nI secs) mm (nI p) (nI x) x3 hp (nI j) (nI t) = f_X11_go_B285 w rL (nI secs) mm (nI p) (nI x) x3 hp (nI j) (nI t) (bI true) := fun _ _ => rfl
    have b0 : ∀ mm hp, f_X11_go_B285 w rL (nI secs) mm (nI p) (nI x) x3 hp (nI j) (nI t) (0 : Int32) = f_X11_go_B285 w rL (nI secs) mm (nI p) (nI x) x3 hp (nI j) (nI t) (bI false) := fun _ _ => rfl
    unfold f_X11_go_B266
    rw [b1, b0, f285, f285, nI_add]
    simp only [e3]
    cases na
    · rw [if_pos (by rfl)]
      by_cases q : kd w t = 3
      · rw [if_pos q]; simp [q]
      · rw [if_neg q]; simp [q]
    · rw [if_neg (by decide)]; rfl
  have f237 : ∀ (c : Nat), c ≤ 400 → f_X11_go_B237 w rL (nI secs) (lN m) (nI p) (nI x) x3 (nI help) (bI na) (nI j) (nI t) (nI (kd w t)) (lN m) (400 : Int64) (nI c) = rL (nI (secs + sc w t)) (lN (m * (400 - c))) (nI p) (nI x) x3 (nI (help + hlN w t)) (bI (na || decide (kd w t = 3))) (nI (j + 1)) := by
    intro c hc
    have mm : lN m * ((400 : Int64) - (nI c).toInt64) = lN (m * (400 - c)) := by
      rw [nI_l (by omega), show (400 : Int64) - lN c = lN (400 - c) from lN_sub (a := 400) hc, lN_mul]
    unfold f_X11_go_B237 hlN
    rw [mm]
    simp only [e1, e2]
    by_cases q1 : kd w t = 1
    · rw [if_pos q1, if_pos q1]; exact f266 _ 2
    · rw [if_neg q1, if_neg q1]
      by_cases q2 : kd w t = 2
      · rw [if_pos q2, if_pos q2]; exact f266 _ 3
      · rw [if_neg q2, if_neg q2]; exact f266 _ 0
  have f184 : f_X11_go_B184 w rL (nI secs) (lN m) (nI p) (nI x) x3 (nI help) (bI na) (nI j) (nI t) (nI (kd w t)) (nI (chN w p h help t)) = rL (nI (secs + sc w t)) (lN (m * fcN w p h lim help secs na t)) (nI p) (nI x) x3 (nI (help + hlN w t)) (bI (na || decide (kd w t = 3))) (nI (j + 1)) := by
    unfold f_X11_go_B184 f_X11_go_B215 f_X11_go_B216
    have f0 := f237 0 (by omega)
    have f0 : f_X11_go_B237 w rL (nI secs) (lN m) (nI p) (nI x) x3 (nI help) (bI na) (nI j) (nI t) (nI (kd w t)) (lN m) (400 : Int64) (0 : Int32) = _ := f0
    rw [f237 _ c400, f0, if_neg g104.1, g104.2, s2]
    simp only [l3, ll, one0, if_true, if_false]
    unfold fcN
    by_cases q : 3 ≤ kd w t
    · rw [if_pos q, if_neg (by omega)]
    · rw [if_neg q]
      cases na
      · rw [if_pos (by rfl)]
        by_cases q2 : lim ≤ secs
        · rw [if_pos q2, if_neg (by omega)]
        · rw [if_neg q2, if_pos ⟨by omega, rfl, by omega⟩]
      · rw [if_neg (by decide), if_neg (fun z => absurd z.2.1 (by decide))]
  have m1 := mn20_le (es w t + help)
  have m2 : h * mn20 (es w t + help) ≤ 20 * 20 := Nat.mul_le_mul h20 m1
  unfold f_X11_go_B130 f_X11_go_B163 f_X11_go_B167 f_X11_go_B168
  rw [m13, gg (by omega) (by omega), if_neg g102.1, g102.2, nI_clamp (by omega)]
  simp only [e2, e3, one0, if_true, if_false]
  have d2 : nI (h * mn20 (es w t + help)) / (2 : Int32) = nI (h * mn20 (es w t + help) / 2) := nI_div (b := 2) (by omega) (by decide)
  by_cases q3 : kd w t = 3
  · have c : chN w p h help t = h * mn20 (es w t + help) / 2 := by unfold chN; rw [if_neg (by omega), if_pos q3]
    rw [if_pos q3, if_neg (show ¬ kd w t = 5 by omega), if_neg (show ¬ kd w t = 4 by omega), d2, ← c, f184]
  · rw [if_neg q3]
    by_cases q2 : kd w t = 2
    · rw [if_pos q2, if_neg (show ¬ kd w t = 5 by omega), if_neg (show ¬ kd w t = 4 by omega), d2]
      by_cases q : w (13 + p) = w 102
      · have c : chN w p h help t = h * mn20 (es w t + help) := by unfold chN; rw [if_pos q2, if_pos q]
        rw [if_pos q, ← c, f184]
      · have c : chN w p h help t = h * mn20 (es w t + help) / 2 := by unfold chN; rw [if_pos q2, if_neg q]
        rw [if_neg q, ← c, f184]
    · rw [if_neg q2]
      have c : chN w p h help t = if kd w t = 5 then 400 else if kd w t = 4 then 10 * mn20 (es w t + help) else h * mn20 (es w t + help) := by
        unfold chN
        rw [if_neg q2, if_neg q3]
        by_cases q4 : kd w t = 4
        · rw [if_pos q4, if_neg (by omega), if_pos q4]
        · rw [if_neg q4, if_neg q4]
      rw [← c, f184]
theorem p10 {j : Nat} (h : j < 5) : 10000 / 10 ^ j = 10 ^ (4 - j) ∧ 0 < 10 ^ (4 - j) ∧ 10 ^ (4 - j) ≤ 10000 := by
  match j, h with
  | 0, _ => decide
  | 1, _ => decide
  | 2, _ => decide
  | 3, _ => decide
  | 4, _ => decide
theorem p10s (j : Nat) : 10000 / 10 ^ j / 10 = 10000 / 10 ^ (j + 1) := by rw [Nat.div_div_eq_div_mul, Nat.pow_succ]
theorem fig {x j : Nat} (hx : x < 100000) (hj : j < 5) : irm (nI x / nI (10000 / 10 ^ j)) (10 : Int32) = nI (dgt x j) := by
  obtain ⟨e, e1, e2⟩ := p10 hj
  rw [e, nI_div (by omega) (by omega)]
  exact irm_n (b := 10) (by have := Nat.div_le_self x (10 ^ (4 - j)); omega) (by decide)
theorem dgt_lt (x j : Nat) : dgt x j < 10 := Nat.mod_lt _ (by decide)
theorem x10 (j : Nat) (hj : j ≤ 5) : nI (10000 / 10 ^ j) / (10 : Int32) = nI (10000 / 10 ^ (j + 1)) := by
  have h : 10000 / 10 ^ j ≤ 10000 := Nat.div_le_self _ _
  rw [← p10s]
  exact nI_div (b := 10) (by omega) (by decide)
theorem goM {v : HallV} {w : Nat → Int32} {p T h lim x : Nat} (G : Goer v w p T h lim) (hx : x < 100000) (hd : ∀ i, i < 5 → dgt x i ≤ T) : ∀ d fu j, d + j = 5 → d < fu → f_X11_go_L23 w fu (nI (stp w p h lim x j).1) (lN (stp w p h lim x j).2.2.2.2) (nI p) (nI x) (nI (10000 / 10 ^ j)) (nI (stp w p h lim x j).2.1) (bI (stp w p h lim x j).2.2.1) (nI j) = some (nI (stp w p h lim x 5).1, lN (stp w p h lim x 5).2.2.2.2) := by
  intro d
  induction d with
  | zero =>
    intro fu j hdj hf
    obtain ⟨fu, rfl⟩ : ∃ m, fu = m + 1 := ⟨fu - 1, by omega⟩
    have e : j = 5 := by omega
    subst e
    rw [f_X11_go_L23, if_pos (by decide)]
  | succ d ih =>
    intro fu j hdj hf
    obtain ⟨fu, rfl⟩ : ∃ m, fu = m + 1 := ⟨fu - 1, by omega⟩
    have e1 := ih fu (j + 1) (by omega) (by omega)
    obtain ⟨b1, b2, b3⟩ := stp_b (x := x) G j (by omega) (fun i hi => hd i (by omega))
    have hT5 := G.1.1
    rw [stp] at e1
    obtain ⟨q1, q2, q3⟩ := p10 (j := j) (by omega)
    have nz : ¬ nI (10000 / 10 ^ j) = 0 := nI_ne0 (by omega) (by omega)
    rw [f_X11_go_L23, if_neg (n5k (by omega)), if_neg nz, fig hx (by omega), x10 j (by omega)]
    by_cases z : dgt x j = 0
    · rw [if_pos z] at e1
      rw [z, if_neg (show ¬ (0 : Int32) ≤ nI 0 - 1 from by decide)]
      unfold f_X11_go_B306
      rw [nI_1, show lN (stp w p h lim x j).2.2.2.2 * (400 : Int64) = lN ((stp w p h lim x j).2.2.2.2 * 400) from lN_mul _ 400]
      exact e1
    · rw [if_neg z] at e1
      have ht : dgt x j - 1 < T := by have := hd j (by omega); omega
      have em : nI (dgt x j) - (1 : Int32) = nI (dgt x j - 1) := nI_sub (b := 1) (by omega)
      generalize htt : dgt x j - 1 = t at e1 ht em
      obtain ⟨⟨-, kq, k5⟩, -, ⟨-, eq, e20⟩⟩ := G.2.1 t ht
      have m74 : (74 : Int32) + nI t = nI (74 + t) := nI_add 74 t
      have m84 : (84 : Int32) + nI t = nI (84 + t) := nI_add 84 t
      have e4 : nI (kd w t) = (4 : Int32) ↔ kd w t = 4 := ne_c 4 k5 (by decide)
      have e5 : nI (kd w t) = (5 : Int32) ↔ kd w t = 5 := ne_c 5 k5 (by decide)
      have B := goB (m := (stp w p h lim x j).2.2.2.2) (j := j) (x := x) (x3 := nI (10000 / 10 ^ (j + 1))) (na := (stp w p h lim x j).2.2.1) (rL := f_X11_go_L23 w fu) (help := (stp w p h lim x j).2.1) (secs := (stp w p h lim x j).1) G ht (by omega) (by omega)
      have t10 : (10 : Int32) * nI (mn20 (es w t + (stp w p h lim x j).2.1)) = nI (10 * mn20 (es w t + (stp w p h lim x j).2.1)) := nI_mul 10 _
      rw [em, if_pos (nI_pos' (by omega)), m74, m84, gg (by omega) (by omega), gg (by omega) (by omega), nI_clamp (by omega), nI_clamp (by omega), eq, kq, nI_add, (mn20_c _ (by omega)).2, Option.bind_some, G.2.2.1.2.2.2, Option.bind_some, t10, nI_mul]
      simp only [e4, e5]
      by_cases y5 : kd w t = 5
      · rw [if_pos y5] at B ⊢
        exact B.trans e1
      · rw [if_neg y5] at B ⊢
        by_cases y4 : kd w t = 4
        · rw [if_pos y4] at B ⊢
          exact B.trans e1
        · rw [if_neg y4] at B ⊢
          exact B.trans e1
theorem goM_eq {v : HallV} {w : Nat → Int32} {p T h lim x : Nat} {t0 : Int32} {m0 : Int64} (G : Goer v w p T h lim) (hx : x < 100000) (hd : ∀ i, i < 5 → dgt x i ≤ T) : f_X11_go w t0 m0 (nI p) (nI x) = some (nI (stp w p h lim x 5).1, lN (stp w p h lim x 5).2.2.2.2) := goM G hx hd 5 FU 0 (by omega) (FU1 (by omega))
/-- figure by figure, from the first -/
def vok (T x : Nat) : Nat → Bool × Nat
  | 0 => (true, 0)
  | j + 1 => if x < 10 ^ (4 - j) then vok T x j else ((vok T x j).1 && (decide (1 ≤ dgt x j ∧ dgt x j ≤ T) && !(vok T x j).2.testBit (dgt x j - 1)), (vok T x j).2 ||| 2 ^ (dgt x j - 1))
theorem vok_mono {T x : Nat} : ∀ n j, (vok T x (j + n)).1 = true → (vok T x j).1 = true := by
  intro n
  induction n with
  | zero => intro j h; exact h
  | succ n ih =>
    intro j h
    apply ih
    rw [show j + (n + 1) = (j + n) + 1 from by omega, vok] at h
    by_cases q : x < 10 ^ (4 - (j + n))
    · rw [if_pos q] at h; exact h
    · rw [if_neg q] at h
      simp only [Bool.and_eq_true] at h
      exact h.1
theorem dgt_small {x j : Nat} (hj : j < 5) (h : x < 10 ^ (4 - j)) : dgt x j = 0 := by
  unfold dgt
  rw [Nat.div_eq_of_lt h]
theorem vok_d {T x : Nat} : ∀ j, j ≤ 5 → (vok T x j).1 = true → (∀ i, i < j → dgt x i ≤ T) ∧ (T ≤ 5 → (vok T x j).2 < 2 ^ 5) := by
  intro j
  induction j with
  | zero => intro _ _; exact ⟨fun i hi => absurd hi (by omega), fun _ => by show 0 < 2 ^ 5; decide⟩
  | succ j ih =>
    intro hj h
    have hm := vok_mono 1 j h
    obtain ⟨i1, i2⟩ := ih (by omega) hm
    rw [vok] at h ⊢
    by_cases q : x < 10 ^ (4 - j)
    · rw [if_pos q]
      refine ⟨fun i hi => ?_, i2⟩
      by_cases e : i = j
      · rw [e, dgt_small (by omega) q]; omega
      · exact i1 i (by omega)
    · rw [if_neg q] at h ⊢
      simp only [Bool.and_eq_true, decide_eq_true_eq] at h
      refine ⟨fun i hi => ?_, fun h5 => ?_⟩
      · by_cases e : i = j
        · rw [e]; exact h.2.1.2
        · exact i1 i (by omega)
      · refine Nat.or_lt_two_pow (i2 h5) (Nat.pow_lt_pow_right (by decide) (by omega))
theorem goC {v : HallV} {w : Nat → Int32} {p T h lim x : Nat} (G : Goer v w p T h lim) (hx : x < 100000) : ∀ d fu j, d + j = 5 → d < fu → (vok T x j).1 = true → ((vok T x 5).1 = true → f_X7_go_L62 v fu (nI h) (nI (stp w p h lim x j).1) (nI (stp w p h lim x j).2.1) (bI (stp w p h lim x j).2.2.1) (bI (stp w p h lim x j).2.2.2.1) (lN ((stp w p h lim x j).2.2.2.2 * 400 ^ (5 - j))) (nI p) (nI x) (nI (vok T x j).2) 1 (nI (10000 / 10 ^ j)) = some (1, nI h, nI (stp w p h lim x 5).1, nI (stp w p h lim x 5).2.1, bI (stp w p h lim x 5).2.2.1, bI (stp w p h lim x 5).2.2.2.1, lN (stp w p h lim x 5).2.2.2.2)) ∧ ((vok T x 5).1 = false → ∃ junk, f_X7_go_L62 v fu (nI h) (nI (stp w p h lim x j).1) (nI (stp w p h lim x j).2.1) (bI (stp w p h lim x j).2.2.1) (bI (stp w p h lim x j).2.2.2.1) (lN ((stp w p h lim x j).2.2.2.2 * 400 ^ (5 - j))) (nI p) (nI x) (nI (vok T x j).2) 1 (nI (10000 / 10 ^ j)) = some (0, junk)) := by
  intro d
  induction d with
  | zero =>
    intro fu j hdj hf hok
    obtain ⟨fu, rfl⟩ : ∃ m, fu = m + 1 := ⟨fu - 1, by omega⟩
    have e : j = 5 := by omega
    subst e
    refine ⟨fun _ => ?_, fun z => absurd hok (by rw [z]; decide)⟩
    rw [f_X7_go_L62, if_neg (by decide), if_pos (by decide), if_pos (by decide), Nat.sub_self, Nat.pow_zero, Nat.mul_one]
  | succ d ih =>
    intro fu j hdj hf hok
    obtain ⟨fu, rfl⟩ : ∃ m, fu = m + 1 := ⟨fu - 1, by omega⟩
    have ihj := ih fu (j + 1) (by omega) (by omega)
    obtain ⟨hdj', hset⟩ := vok_d j (by omega) hok
    have hT5 := G.1.1
    have hset := hset hT5
    obtain ⟨b1, b2, b3⟩ := stp_b (x := x) G j (by omega) hdj'
    obtain ⟨q1, q2, q3⟩ := p10 (j := j) (by omega)
    have nz : ¬ nI (10000 / 10 ^ j) = 0 := nI_ne0 (by omega) (by omega)
    have nz2 : ¬ nI (10000 / 10 ^ j) ≤ 0 := nI_nle (by omega) (by omega)
    have pw : (400 : Nat) ^ (5 - j) = 400 ^ (4 - j) * 400 := by rw [← Nat.pow_succ]; congr 1; omega
    have lx : nI x < nI (10000 / 10 ^ j) ↔ x < 10 ^ (4 - j) := by rw [q1]; exact nI_ltI (by omega) (by omega)
    rw [f_X7_go_L62, if_neg (by decide), if_neg nz2, if_neg nz, fig hx (by omega), G.1.2.1]
    simp only [lx]
    rw [vok, stp, show 5 - (j + 1) = 4 - j from by omega] at ihj
    by_cases qx : x < 10 ^ (4 - j)
    · rw [if_pos qx, if_pos (dgt_small (by omega) qx)] at ihj
      rw [if_pos qx]
      unfold f_X7_go_B140
      rw [x10 j (by omega), pw, Nat.mul_comm (400 ^ (4 - j)) 400, ← Nat.mul_assoc]
      exact ihj hok
    · rw [if_neg qx] at ihj ⊢
      have dead : ∀ a1 a2 a3 a4 a5 a6, ∃ junk, f_X7_go_L62 v fu (nI h) a1 a2 a3 a4 a5 (nI p) (nI x) a6 0 (nI (10000 / 10 ^ (j + 1))) = some (0, junk) := by
        intro a1 a2 a3 a4 a5 a6
        obtain ⟨fu, rfl⟩ : ∃ m, fu = m + 1 := ⟨fu - 1, by omega⟩
        exact ⟨_, by rw [f_X7_go_L62, if_pos rfl, if_pos (by decide)]⟩
      have bad : ((vok T x j).1 && (decide (1 ≤ dgt x j ∧ dgt x j ≤ T) && !(vok T x j).2.testBit (dgt x j - 1))) = false → (vok T x 5).1 = false := by
        intro hb
        cases h5 : (vok T x 5).1 with
        | false => rfl
        | true =>
          have := vok_mono d (j + 1) (by rw [show j + 1 + d = 5 from by omega]; exact h5)
          rw [vok, if_neg qx] at this
          rw [hb] at this; exact absurd this Bool.false_ne_true
      by_cases g1 : 1 ≤ dgt x j ∧ dgt x j ≤ T
      · have em : nI (dgt x j) - (1 : Int32) = nI (dgt x j - 1) := nI_sub (b := 1) g1.1
        have ho : f_X8_holds (nI T) (nI (dgt x j - 1)) = some 1 := by
          rw [holds_eq rfl (by omega), if_pos ⟨nI_pos' (by omega), nI_lt (by omega) (by omega)⟩]
        have ht : dgt x j - 1 < T := by omega
        rw [em, ho, Option.bind_some, if_neg (by decide), (isIn_eq (a := (vok T x j).2) (by omega) (by omega)).1, Option.bind_some]
        simp only [ite01]
        cases htb : (vok T x j).2.testBit (dgt x j - 1) with
        | true =>
          rw [if_neg (by simp)]
          have hb := bad (by simp [htb])
          refine ⟨fun z => absurd hb (by rw [z]; decide), fun _ => ?_⟩
          unfold f_X7_go_B115 f_X7_go_B116 f_X7_go_B140
          rw [if_pos rfl, x10 j (by omega)]
          exact dead _ _ _ _ _ _
        | false =>
          rw [if_pos (by simp)]
          rw [htb, hok, if_neg (show ¬ dgt x j = 0 by omega)] at ihj
          have hm4 : (stp w p h lim x j).2.2.2.2 * 400 ^ (4 - j) ≤ 400 ^ 4 := by
            have := Nat.mul_le_mul_right (400 ^ (4 - j)) b3
            rw [← Nat.pow_add, show j + (4 - j) = 4 from by omega] at this
            exact this
          have tk := tkC (na := (stp w p h lim x j).2.2.1) (out := (stp w p h lim x j).2.2.2.1) (help := (stp w p h lim x j).2.1) (secs := (stp w p h lim x j).1) G ht (by omega) (by omega) hm4
          have p5 : 2 ^ (dgt x j - 1) ≤ 2 ^ 5 := Nat.pow_le_pow_right (by decide) (by omega)
          have p5lt : 2 ^ (dgt x j - 1) < 2 ^ 32 := by omega
          unfold f_X7_go_B116 f_X7_go_B140
          rw [if_neg (by decide), pw, ← Nat.mul_assoc, tk, Option.bind_some, x10 j (by omega), shb _ (by omega), nI_or (by omega) p5lt]
          have ihj := ihj (by simp [g1])
          rw [Nat.mul_right_comm]
          exact ihj
      · have ho : f_X8_holds (nI T) (nI (dgt x j) - 1) = some 0 := by
          rw [holds_eq rfl (by omega), if_neg]
          intro z
          by_cases y : dgt x j = 0
          · rw [y] at z; exact absurd z.1 (by decide)
          · rw [show nI (dgt x j) - (1 : Int32) = nI (dgt x j - 1) from nI_sub (b := 1) (by omega)] at z
            have := (nI_ltI (by have := dgt_lt x j; omega) (by omega)).mp z.2
            omega
        rw [ho, Option.bind_some, if_pos rfl]
        have hb := bad (by simp [g1])
        refine ⟨fun z => absurd hb (by rw [z]; decide), fun _ => ?_⟩
        unfold f_X7_go_B115 f_X7_go_B116 f_X7_go_B140
        rw [if_pos rfl, x10 j (by omega)]
        exact dead _ _ _ _ _ _
def val (T x : Nat) : Bool := decide (x ≤ 54321) && (vok T x 5).1
theorem goC_eq {v : HallV} {w : Nat → Int32} {p T h lim : Nat} {a1 a2 a3 a4 a5 : Int32} {a6 : Int64} (G : Goer v w p T h lim) (y : Int32) : (∀ x, y = nI x → x < 2 ^ 31 → val T x = true → f_X7_go v a1 a2 a3 a4 a5 a6 (nI p) y = some (1, nI h, nI (stp w p h lim x 5).1, nI (stp w p h lim x 5).2.1, bI (stp w p h lim x 5).2.2.1, bI (stp w p h lim x 5).2.2.2.1, lN (stp w p h lim x 5).2.2.2.2)) ∧ ((∀ x, y = nI x → x < 2 ^ 31 → val T x = false) → ∃ junk, f_X7_go v a1 a2 a3 a4 a5 a6 (nI p) y = some (0, junk)) := by
  have zero : ∃ junk, f_X7_go_B54 v (nI h) (0 : Int32) (0 : Int32) (0 : Int32) (0 : Int32) (10240000000000 : Int64) (nI p) y (0 : Int32) = some (0, junk) := by
    unfold f_X7_go_B54 f_X7_go_B55
    obtain ⟨m, hm⟩ := FU4
    rw [hm]
    exact ⟨_, by rw [f_X7_go_L62, if_pos rfl, if_pos (by decide)]⟩
  unfold f_X7_go
  rw [G.2.2.1.2.2.1, Option.bind_some]
  by_cases n0 : y < 0
  · rw [if_pos n0]
    refine ⟨fun x e hx _ => absurd n0 (by rw [e]; exact nI_pos hx), fun _ => zero⟩
  · rw [if_neg n0]
    obtain ⟨x, hx, rfl⟩ := nI_of n0
    have l : (54321 : Int32) < nI x ↔ 54321 < x := nI_ltI (a := 54321) (by decide) hx
    by_cases n1 : 54321 < x
    · rw [if_pos (l.mpr n1)]
      refine ⟨fun x' e hx' hv => ?_, fun _ => zero⟩
      have e2 := (nI_eq hx hx').mp e
      subst e2
      unfold val at hv
      simp only [Bool.and_eq_true, decide_eq_true_eq] at hv
      omega
    · rw [if_neg (fun z => n1 (l.mp z))]
      obtain ⟨c1, c2⟩ := goC G (x := x) (by omega) 5 FU 0 (by omega) (FU1 (by omega)) rfl
      have k5 : lN ((stp w p h lim x 0).2.2.2.2 * 400 ^ (5 - 0)) = (10240000000000 : Int64) := by
        rw [show (stp w p h lim x 0).2.2.2.2 * 400 ^ (5 - 0) = 10240000000000 from by show 1 * 400 ^ 5 = 10240000000000; decide]; rfl
      have k6 : nI (10000 / 10 ^ 0) = (10000 : Int32) := by decide
      rw [k5, k6] at c1 c2
      refine ⟨fun x' e hx' hv => ?_, fun hv => ?_⟩
      · have e2 := (nI_eq hx hx').mp e
        subst e2
        unfold val at hv
        simp only [Bool.and_eq_true, decide_eq_true_eq] at hv
        exact c1 hv.2
      · have hv := hv x rfl hx
        unfold val at hv
        have : decide (x ≤ 54321) = true := by simp; omega
        rw [this, Bool.true_and] at hv
        exact c2 hv

