/-! PURE 4: halls copied, minds kept -/
theorem FU1 {n : Nat} (h : n ≤ 1000) : n < FU := by unfold FU; omega
def cpN {α : Type} (w : Nat → α) (a b n : Nat) : Nat → α := fun k => if b ≤ k ∧ k < b + n then w (a + (k - b)) else w k
theorem cp_in {α : Type} {w : Nat → α} {a b n j : Nat} (h : j < n) : cpN w a b n (b + j) = w (a + j) := by
  unfold cpN
  rw [if_pos ⟨by omega, by omega⟩]
  congr 1; omega
theorem cp_out {α : Type} {w : Nat → α} {a b n k : Nat} (h : k < b ∨ b + n ≤ k) : cpN w a b n k = w k := by
  unfold cpN
  rw [if_neg (by omega)]
theorem become8_L {N : Nat} {rows r2 : Int32} {cells2 : Nat → Int64} (hN : N < 1000) : ∀ d fu cells k, d + k = N → d < fu → f_X8_become_L10 N N r2 cells2 fu rows cells (nI k) = some (rows, fun j => if k ≤ j ∧ j < N then cells2 j else cells j) := by
  intro d
  induction d with
  | zero =>
    intro fu cells k hk hf
    obtain ⟨fu, rfl⟩ : ∃ m, fu = m + 1 := ⟨fu - 1, by omega⟩
    have e : k = N := by omega
    subst e
    rw [f_X8_become_L10, if_pos (show Int32.ofNat k ≤ nI k from Int32.le_refl _)]
    congr 2
    funext j
    rw [if_neg (by omega)]
  | succ d ih =>
    intro fu cells k hk hf
    obtain ⟨fu, rfl⟩ : ∃ m, fu = m + 1 := ⟨fu - 1, by omega⟩
    have e1 : nI k + (1 : Int32) = nI (k + 1) := nI_add k 1
    rw [f_X8_become_L10, if_neg (nge (by omega) (by omega)), if_neg (nge (by omega) (by omega)), if_neg (gi (by omega) (by omega)), if_neg (gi (by omega) (by omega)), e1, ih _ _ _ (by omega) (by omega)]
    congr 2
    funext j
    rw [nI_clamp (by omega)]
    by_cases q : j = k
    · subst q
      rw [if_neg (by omega), if_pos ⟨by omega, by omega⟩, updL_s]
    · rw [updL_n q]
      by_cases q2 : k + 1 ≤ j ∧ j < N
      · rw [if_pos q2, if_pos ⟨by omega, by omega⟩]
      · rw [if_neg q2, if_neg (by omega)]
theorem become8 {N : Nat} {rows r2 : Int32} {cells cells2 : Nat → Int64} (hN : N < 1000) : f_X8_become N rows cells N r2 cells2 = some (r2, fun j => if j < N then cells2 j else cells j) := by
  unfold f_X8_become
  rw [show (0 : Int32) = nI 0 from rfl, become8_L hN N FU cells 0 (by omega) (FU1 (by omega))]
  congr 2
  funext j
  by_cases q : j < N
  · rw [if_pos ⟨by omega, q⟩, if_pos q]
  · rw [if_neg (by omega), if_neg q]
theorem HRel.mv {v : HallV} {w w' : Nat → Int32} {nm nm' : Nat → Int64} {o no o' no' : Nat} (h : HRel v w nm o no) (hw : ∀ j, j < 120 → w' (o' + j) = w (o + j)) (hn : ∀ j, j < 12 → nm' (no' + j) = nm (no + j)) : HRel v w' nm' o' no' := by
  obtain ⟨M, T, K, ⟨hM, hT, hK⟩, ⟨a1, a2⟩, ⟨b1, b2⟩, ⟨c1, c2⟩, hrows, hp, ht, hq, hs, hk, hd, hd2⟩ := h
  have w0 : w' o' = w o := hw 0 (by omega)
  refine ⟨M, T, K, ⟨hM, hT, hK⟩, ⟨a1, by rw [w0]; exact a2⟩, ⟨b1, by rw [hw _ (by omega)]; exact b2⟩, ⟨c1, by rw [hw _ (by omega)]; exact c2⟩, hrows, ?_, ?_, ?_, ?_, ?_, by rw [hw _ (by omega)]; exact hd, by rw [hw _ (by omega)]; exact hd2⟩
  · intro p hpM
    have := hp p hpM
    unfold PRel at this ⊢
    simp only [Nat.add_assoc] at this ⊢
    simp (disch := omega) only [hn, hw]
    exact this
  · intro t htT
    have := ht t htT
    unfold TRel at this ⊢
    simp only [Nat.add_assoc] at this ⊢
    simp (disch := omega) only [hw]
    exact this
  · intro q hqK
    have := hq q hqK
    unfold QRel at this ⊢
    simp only [Nat.add_assoc] at this ⊢
    simp (disch := omega) only [hw]
    exact this
  · intro c hc
    have := hs c hc
    simp only [Nat.add_assoc] at this ⊢
    simp (disch := omega) only [hw]
    exact this
  · intro c hc
    have := hk c hc
    simp only [Nat.add_assoc] at this ⊢
    simp (disch := omega) only [hw]
    exact this
theorem HRel.v {v v' : HallV} {w : Nat → Int32} {nm : Nat → Int64} {o no : Nat} (h : HRel v w nm o no) (e1 : ∀ i, i < 5 → v'.1 i = v.1 i) (f0 : ∀ k, k < 84 → v'.2.1 0 k = v.2.1 0 k) (f1 : ∀ k, k < 15 → v'.2.1 1 k = v.2.1 1 k) (f2 : ∀ k, k < 12 → v'.2.1 2 k = v.2.1 2 k) (f3 : ∀ k, k < 8 → v'.2.1 3 k = v.2.1 3 k) (f4 : ∀ k, k < 5 → v'.2.1 4 k = v.2.1 4 k) (e2 : v'.2.2 = v.2.2) : HRel v' w nm o no := by
  obtain ⟨M, T, K, ⟨hM, hT, hK⟩, ⟨a1, a2⟩, ⟨b1, b2⟩, ⟨c1, c2⟩, ⟨r3, r4⟩, hp, ht, hq, hs, hk, hd, hd2⟩ := h
  refine ⟨M, T, K, ⟨hM, hT, hK⟩, ⟨by rw [e1 0 (by omega)]; exact a1, a2⟩, ⟨by rw [e1 1 (by omega)]; exact b1, b2⟩, ⟨by rw [e1 2 (by omega)]; exact c1, c2⟩, ⟨by rw [e1 3 (by omega)]; exact r3, by rw [e1 4 (by omega)]; exact r4⟩, ?_, ?_, ?_, ?_, ?_, by rw [e2]; exact hd, hd2⟩
  · intro p hpM
    have := hp p hpM
    unfold PRel at this ⊢
    simp (disch := omega) only [f0]
    exact this
  · intro t htT
    have := ht t htT
    unfold TRel at this ⊢
    simp (disch := omega) only [f1]
    exact this
  · intro q hqK
    have := hq q hqK
    unfold QRel at this ⊢
    simp (disch := omega) only [f2]
    exact this
  · intro c hc
    rw [f3 c hc]
    exact hs c hc
  · intro c hc
    rw [f4 c hc]
    exact hk c hc
theorem become_ok (sg sg2 : HallV) : ∃ v', f_X1_become sg sg2 = some v' ∧ ∀ {w : Nat → Int32} {nm : Nat → Int64} {o no : Nat}, HRel sg2 w nm o no → HRel v' w nm o no := by
  unfold f_X1_become
  simp only [become8 (N := 84) (by decide), become8 (N := 15) (by decide), become8 (N := 12) (by decide), become8 (N := 8) (by decide), become8 (N := 5) (by decide), Option.bind_some]
  refine ⟨_, rfl, fun h => h.v ?_ ?_ ?_ ?_ ?_ ?_ ?_⟩
  · intro i hi
    match i, hi with
    | 0, _ => rfl
    | 1, _ => rfl
    | 2, _ => rfl
    | 3, _ => rfl
    | 4, _ => rfl
  · intro k hk
    simp (disch := omega) only [hsC_at, hsC_ne, hsR_2, hsD_2, if_pos hk]
  · intro k hk
    simp (disch := omega) only [hsC_at, hsC_ne, hsR_2, hsD_2, if_pos hk]
  · intro k hk
    simp (disch := omega) only [hsC_at, hsC_ne, hsR_2, hsD_2, if_pos hk]
  · intro k hk
    simp (disch := omega) only [hsC_at, hsC_ne, hsR_2, hsD_2, if_pos hk]
  · intro k hk
    simp (disch := omega) only [hsC_at, hsC_ne, hsR_2, hsD_2, if_pos hk]
  · rfl
theorem cpN_step {α : Type} {w w' : Nat → α} {a b x n : Nat} (hx : x < n) (hd : a = b ∨ a + n ≤ b ∨ b + n ≤ a) (h1 : w' (b + x) = w (a + x)) (h2 : ∀ k, k ≠ b + x → w' k = w k) : (fun k => if b + (x + 1) ≤ k ∧ k < b + n then w' (a + (k - b)) else w' k) = (fun k => if b + x ≤ k ∧ k < b + n then w (a + (k - b)) else w k) := by
  funext k
  by_cases q : k = b + x
  · subst q
    rw [if_neg (by omega), if_pos ⟨by omega, by omega⟩, h1]
    congr 1; omega
  · by_cases q2 : b + (x + 1) ≤ k ∧ k < b + n
    · rw [if_pos q2, if_pos ⟨by omega, by omega⟩, h2 _ (by omega)]
    · rw [if_neg q2, if_neg (by omega), h2 _ q]
theorem copy_L32 {mw : Nat → Int32} {i j : Nat} (hi : i < 8) (hj : j < 8) : ∀ d fu nm x, d + x = 12 → d < fu → f_X11_copy_L32 fu mw nm (nI (120 * i)) (nI (120 * j)) (nI x) = some (mw, fun k => if 12 * j + x ≤ k ∧ k < 12 * j + 12 then nm (12 * i + (k - 12 * j)) else nm k) := by
  have di : nI (120 * i) / (10 : Int32) = nI (12 * i) := by rw [show (10 : Int32) = nI 10 from rfl, nI_div (by omega) (by omega)]; congr 1; omega
  have dj : nI (120 * j) / (10 : Int32) = nI (12 * j) := by rw [show (10 : Int32) = nI 10 from rfl, nI_div (by omega) (by omega)]; congr 1; omega
  intro d
  induction d with
  | zero =>
    intro fu nm x hx hf
    obtain ⟨fu, rfl⟩ : ∃ m, fu = m + 1 := ⟨fu - 1, by omega⟩
    have e : x = 12 := by omega
    subst e
    rw [f_X11_copy_L32, if_pos (by decide)]
    congr 2
    funext k
    rw [if_neg (by omega)]
  | succ d ih =>
    intro fu nm x hx hf
    obtain ⟨fu, rfl⟩ : ∃ m, fu = m + 1 := ⟨fu - 1, by omega⟩
    have e1 : nI x + (1 : Int32) = nI (x + 1) := nI_add x 1
    have n12 : ¬ (12 : Int32) ≤ nI x := nge (a := x) (b := 12) (by omega) (by omega)
    rw [f_X11_copy_L32, if_neg n12, di, dj, nI_add, nI_add, if_neg (gi (by omega) (by omega)), if_neg (gi (by omega) (by omega)), e1, ih _ _ _ (by omega) (by omega), nI_clamp (by omega), nI_clamp (by omega)]
    congr 2
    exact cpN_step (by omega) (by omega) updL_s (fun k hk => updL_n hk)
theorem copy_L2 {nm : Nat → Int64} {i j : Nat} (hi : i < 8) (hj : j < 8) : ∀ d fu mw x, d + x = 120 → d < fu → f_X11_copy_L2 fu mw nm (nI (120 * i)) (nI (120 * j)) (nI x) = some (fun k => if 120 * j + x ≤ k ∧ k < 120 * j + 120 then mw (120 * i + (k - 120 * j)) else mw k, cpN nm (12 * i) (12 * j) 12) := by
  intro d
  induction d with
  | zero =>
    intro fu mw x hx hf
    obtain ⟨fu, rfl⟩ : ∃ m, fu = m + 1 := ⟨fu - 1, by omega⟩
    have e : x = 120 := by omega
    subst e
    rw [f_X11_copy_L2, if_pos (by decide), show (0 : Int32) = nI 0 from rfl, copy_L32 hi hj 12 FU nm 0 (by omega) (FU1 (by omega))]
    congr 2
    funext k
    rw [if_neg (by omega)]
  | succ d ih =>
    intro fu mw x hx hf
    obtain ⟨fu, rfl⟩ : ∃ m, fu = m + 1 := ⟨fu - 1, by omega⟩
    have e1 : nI x + (1 : Int32) = nI (x + 1) := nI_add x 1
    have n12 : ¬ (120 : Int32) ≤ nI x := nge (a := x) (b := 120) (by omega) (by omega)
    rw [f_X11_copy_L2, if_neg n12, nI_add, nI_add, if_neg (gi (by omega) (by omega)), if_neg (gi (by omega) (by omega)), e1, ih _ _ _ (by omega) (by omega), nI_clamp (by omega), nI_clamp (by omega)]
    congr 2
    exact cpN_step (by omega) (by omega) upd_s (fun k hk => upd_n hk)
theorem copy_eq {mw : Nat → Int32} {nm : Nat → Int64} (i j : Nat) {x y : Int32} (hi : i < 8) (hj : j < 8) (hx : x = nI (120 * i)) (hy : y = nI (120 * j)) : f_X11_copy mw nm x y = some (cpN mw (120 * i) (120 * j) 120, cpN nm (12 * i) (12 * j) 12) := by
  subst hx hy
  unfold f_X11_copy
  rw [show (0 : Int32) = nI 0 from rfl, copy_L2 hi hj 120 FU mw 0 (by omega) (FU1 (by omega))]
  rfl
theorem irm_n {a b : Nat} (ha : a < 2 ^ 31) (hb : b < 2 ^ 31) : irm (nI a) (nI b) = nI (a % b) := by
  unfold irm
  have h := Nat.div_add_mod a b
  rw [Nat.mul_comm] at h
  rw [nI_div ha hb, nI_mul, nI_sub (by omega)]
  congr 1; omega
theorem slotAt_eq {B : Nat} {x : Int32} (hx : x = nI B) (h : B < 4) : f_X5_slotAt x = some (some B) := by
  unfold f_X5_slotAt
  rw [hx, if_neg (nI_pos (by omega)), if_neg (nge h (by omega)), if_neg (gi h (by omega)), nI_clamp (by omega)]
theorem FU4 : ∃ m, FU = m + 1 + 1 + 1 + 1 := ⟨999996, by unfold FU; omega⟩
theorem ma1 : (480 : Int32) + (120 : Int32) * 1 = nI (120 * 5) ∧ (480 : Int32) + (120 : Int32) * (1 - (1 : Int32)) = nI (120 * 4) ∧ ¬ (4 : Int32) ≤ 1 := by decide
theorem ma2 : (480 : Int32) + (120 : Int32) * (1 + 1) = nI (120 * 6) ∧ (480 : Int32) + (120 : Int32) * (1 + 1 - (1 : Int32)) = nI (120 * 5) ∧ ¬ (4 : Int32) ≤ 1 + 1 := by decide
theorem ma3 : (480 : Int32) + (120 : Int32) * (1 + 1 + 1) = nI (120 * 7) ∧ (480 : Int32) + (120 : Int32) * (1 + 1 + 1 - (1 : Int32)) = nI (120 * 6) ∧ ¬ (4 : Int32) ≤ 1 + 1 + 1 := by decide
theorem ma4 : (480 : Int32) + (120 : Int32) * (nI 4 - (1 : Int32)) = nI (120 * 7) ∧ (4 : Int32) ≤ 1 + 1 + 1 + 1 ∧ nI 4 - (1 : Int32) + 1 = nI 4 := by decide
theorem minds_four (mw : Nat → Int32) (nm : Nat → Int64) : f_X11_minds mw nm (nI 4) = some (cpN (cpN (cpN (cpN mw (120 * 5) (120 * 4) 120) (120 * 6) (120 * 5) 120) (120 * 7) (120 * 6) 120) (120 * 0) (120 * 7) 120, cpN (cpN (cpN (cpN nm (12 * 5) (12 * 4) 12) (12 * 6) (12 * 5) 12) (12 * 7) (12 * 6) 12) (12 * 0) (12 * 7) 12, nI 4) := by
  unfold f_X11_minds
  obtain ⟨m, hm⟩ := FU4
  rw [if_pos (show nI 4 = (4 : Int32) from by decide), hm, f_X11_minds_L10, if_neg ma1.2.2, copy_eq 5 4 (by omega) (by omega) ma1.1 ma1.2.1, Option.bind_some]
  rw [f_X11_minds_L10, if_neg ma2.2.2, copy_eq 6 5 (by omega) (by omega) ma2.1 ma2.2.1, Option.bind_some]
  rw [f_X11_minds_L10, if_neg ma3.2.2, copy_eq 7 6 (by omega) (by omega) ma3.1 ma3.2.1, Option.bind_some]
  rw [f_X11_minds_L10, if_pos ma4.2.1, f_X11_minds_B53, copy_eq (x := 0) 0 7 (by omega) (by omega) (by decide) ma4.1, Option.bind_some, ma4.2.2]
/-- the reference's minds, K kept -/
theorem minds_ok {mw : Nat → Int32} {nm : Nat → Int64} {mu : Int32} {K : Nat} (hK : K ≤ 4) (hmu : mu = nI K) : ∃ (w' : Nat → Int32) (nm' : Nat → Int64) (K' : Nat), f_X11_minds mw nm mu = some (w', nm', nI K') ∧ (∀ j, j < 480 → w' j = mw j) ∧ (∀ j, j < 48 → nm' j = nm j) ∧ ((K < 4 ∧ K' = K + 1 ∧ (∀ t, t < K → (∀ j, j < 120 → w' (480 + 120 * t + j) = mw (480 + 120 * t + j)) ∧ (∀ j, j < 12 → nm' (48 + 12 * t + j) = nm (48 + 12 * t + j)))) ∨ (K = 4 ∧ K' = 4 ∧ (∀ t, t < 3 → (∀ j, j < 120 → w' (480 + 120 * t + j) = mw (480 + 120 * (t + 1) + j)) ∧ (∀ j, j < 12 → nm' (48 + 12 * t + j) = nm (48 + 12 * (t + 1) + j))))) ∧ (∀ j, j < 120 → w' (480 + 120 * (K' - 1) + j) = mw (0 + j)) ∧ (∀ j, j < 12 → nm' (48 + 12 * (K' - 1) + j) = nm (0 + j)) := by
  subst hmu
  by_cases h4 : K = 4
  · subst h4
    refine ⟨_, _, 4, minds_four mw nm, ?_, ?_, Or.inr ⟨rfl, rfl, ?_⟩, ?_, ?_⟩
    · intro j hj
      rw [cp_out (by omega), cp_out (by omega), cp_out (by omega), cp_out (by omega)]
    · intro j hj
      rw [cp_out (by omega), cp_out (by omega), cp_out (by omega), cp_out (by omega)]
    · intro t ht
      have t3 : t = 0 ∨ t = 1 ∨ t = 2 := by omega
      rcases t3 with rfl | rfl | rfl
      · refine ⟨fun j hj => ?_, fun j hj => ?_⟩
        · rw [cp_out (by omega), cp_out (by omega), cp_out (by omega), show 480 + 120 * 0 + j = 120 * 4 + j from by omega, cp_in hj, show 480 + 120 * (0 + 1) + j = 120 * 5 + j from by omega]
        · rw [cp_out (by omega), cp_out (by omega), cp_out (by omega), show 48 + 12 * 0 + j = 12 * 4 + j from by omega, cp_in hj, show 48 + 12 * (0 + 1) + j = 12 * 5 + j from by omega]
      · refine ⟨fun j hj => ?_, fun j hj => ?_⟩
        · rw [cp_out (by omega), cp_out (by omega), show 480 + 120 * 1 + j = 120 * 5 + j from by omega, cp_in hj, cp_out (by omega), show 480 + 120 * (1 + 1) + j = 120 * 6 + j from by omega]
        · rw [cp_out (by omega), cp_out (by omega), show 48 + 12 * 1 + j = 12 * 5 + j from by omega, cp_in hj, cp_out (by omega), show 48 + 12 * (1 + 1) + j = 12 * 6 + j from by omega]
      · refine ⟨fun j hj => ?_, fun j hj => ?_⟩
        · rw [cp_out (by omega), show 480 + 120 * 2 + j = 120 * 6 + j from by omega, cp_in hj, cp_out (by omega), cp_out (by omega), show 480 + 120 * (2 + 1) + j = 120 * 7 + j from by omega]
        · rw [cp_out (by omega), show 48 + 12 * 2 + j = 12 * 6 + j from by omega, cp_in hj, cp_out (by omega), cp_out (by omega), show 48 + 12 * (2 + 1) + j = 12 * 7 + j from by omega]
    · intro j hj
      rw [show 480 + 120 * (4 - 1) + j = 120 * 7 + j from by omega, cp_in hj, cp_out (by omega), cp_out (by omega), cp_out (by omega)]
    · intro j hj
      rw [show 48 + 12 * (4 - 1) + j = 12 * 7 + j from by omega, cp_in hj, cp_out (by omega), cp_out (by omega), cp_out (by omega)]
  · have t4 : nI K = (4 : Int32) ↔ K = 4 := nI_eq (a := K) (b := 4) (by omega) (by omega)
    unfold f_X11_minds
    rw [if_neg (fun z => h4 (t4.mp z))]
    unfold f_X11_minds_B53
    have e1 : (480 : Int32) + 120 * nI K = nI (120 * (4 + K)) := by
      rw [show (480 : Int32) = nI 480 from rfl, show (120 : Int32) = nI 120 from rfl, nI_mul, nI_add]; congr 1; omega
    have e2 : nI K + (1 : Int32) = nI (K + 1) := nI_add K 1
    rw [copy_eq (x := 0) 0 (4 + K) (by omega) (by omega) rfl e1]
    simp only [Option.bind_some, e2]
    refine ⟨_, _, K + 1, rfl, ?_, ?_, Or.inl ⟨by omega, rfl, ?_⟩, ?_, ?_⟩
    · intro j hj
      rw [cp_out (by omega)]
    · intro j hj
      rw [cp_out (by omega)]
    · intro t ht
      refine ⟨fun j hj => ?_, fun j hj => ?_⟩
      · rw [cp_out (by omega)]
      · rw [cp_out (by omega)]
    · intro j hj
      rw [show 480 + 120 * (K + 1 - 1) + j = 120 * (4 + K) + j from by omega, cp_in hj]
    · intro j hj
      rw [show 48 + 12 * (K + 1 - 1) + j = 12 * (4 + K) + j from by omega, cp_in hj]
theorem keep_ok {now : HallV} {bl kp : Int32} {ring : Nat → HallV} {mw : Nat → Int32} {nm : Nat → Int64} {mu : Int32} (hnow : HRel now mw nm 0 0) (hP : RPast bl kp ring mw nm mu) : ∃ (bl' kp' : Int32) (ring' : Nat → HallV) (w' : Nat → Int32) (nm' : Nat → Int64) (mu' : Int32), f_X5_keep now bl kp ring = some (bl', kp', ring') ∧ f_X11_minds mw nm mu = some (w', nm', mu') ∧ RPast bl' kp' ring' w' nm' mu' ∧ (∀ j, j < 480 → w' j = mw j) ∧ (∀ j, j < 48 → nm' j = nm j) := by
  obtain ⟨B, K, hB, hK, rfl, rfl, rfl, hr⟩ := hP
  obtain ⟨w', nm', K', e1, f1, f2, hc, n1, n2⟩ := minds_ok (mw := mw) (nm := nm) hK rfl
  obtain ⟨v', eb, hv⟩ := become_ok (ring B) now
  have i1 : irm (nI B + (1 : Int32)) (4 : Int32) = nI ((B + 1) % 4) := by
    rw [show nI B + (1 : Int32) = nI (B + 1) from nI_add B 1]
    exact irm_n (b := 4) (by omega) (by omega)
  have hK' : K' ≤ 4 ∧ 1 ≤ K' := by omega
  have i2 : imin (4 : Int32) (nI K + (1 : Int32)) = nI K' := by
    rw [show nI K + (1 : Int32) = nI (K + 1) from nI_add K 1]
    unfold imin
    rcases hc with ⟨a, b, _⟩ | ⟨a, b, _⟩
    · subst b
      by_cases q : K + 1 < 4
      · rw [if_pos (show nI (K + 1) < (4 : Int32) from nI_lt (a := K + 1) (b := 4) q (by omega))]
      · rw [if_neg (show ¬ nI (K + 1) < (4 : Int32) from fun z => q ((nI_ltI (a := K + 1) (b := 4) (by omega) (by omega)).mp z)), show K + 1 = 4 from by omega]; rfl
    · rw [a, b]; decide
  refine ⟨nI ((B + 1) % 4), nI K', va_up ring B v', w', nm', nI K', ?_, e1, ?_, f1, f2⟩
  · unfold f_X5_keep
    rw [slotAt_eq rfl hB]
    simp only [Option.bind_some, Option.elim_some, if_pos hB, eb, i1, i2]
  · refine ⟨(B + 1) % 4, K', by omega, hK'.1, rfl, rfl, rfl, ?_⟩
    intro j hj
    by_cases q : j + 1 = K'
    · rw [show ((B + 1) % 4 + 4 - K' + j) % 4 = B from by omega, va_up_self]
      have e : j = K' - 1 := by omega
      subst e
      exact (hv hnow).mv n1 n2
    · have ne : ((B + 1) % 4 + 4 - K' + j) % 4 ≠ B := by omega
      rw [va_up_ne _ _ ne]
      rcases hc with ⟨a, b, c⟩ | ⟨a, b, c⟩
      · rw [show ((B + 1) % 4 + 4 - K' + j) % 4 = (B + 4 - K + j) % 4 from by omega]
        exact (hr j (by omega)).mv (c j (by omega)).1 (c j (by omega)).2
      · rw [show ((B + 1) % 4 + 4 - K' + j) % 4 = (B + 4 - K + (j + 1)) % 4 from by omega]
        exact (hr (j + 1) (by omega)).mv (c j (by omega)).1 (c j (by omega)).2
theorem Rel.past {now bl kp ring imgs tlen tby draft rall nmost keptImages fab fbe bads noes fulls mw mnames mkept mtext mtexted mundo mabove mbelow mrefused} {bl' kp' : Int32} {ring' : Nat → HallV} {mw' : Nat → Int32} {mnames' : Nat → Int64} {mu' : Int32}
    (h : Rel now bl kp ring imgs tlen tby draft rall nmost keptImages fab fbe bads noes fulls mw mnames mkept mtext mtexted mundo mabove mbelow mrefused)
    (hp : RPast bl' kp' ring' mw' mnames' mu') (hw : ∀ j, j < 480 → mw' j = mw j) (hm : ∀ j, j < 48 → mnames' j = mnames j) :
    Rel now bl' kp' ring' imgs tlen tby draft rall nmost keptImages fab fbe bads noes fulls mw' mnames' mkept mtext mtexted mu' mabove mbelow mrefused := by
  obtain ⟨h1, _, ⟨bb, hk, hi⟩, h4⟩ := h
  refine ⟨h1.fr (fun j a b => hw j (by omega)) (fun j a b => hm j (by omega)), hp, ⟨bb, hk, fun i hi2 => ⟨(hi i hi2).1, fun hb => ((hi i hi2).2 hb).fr (fun j h1 h2 => hw j (by omega)) (fun j h1 h2 => hm j (by omega))⟩⟩, h4⟩
