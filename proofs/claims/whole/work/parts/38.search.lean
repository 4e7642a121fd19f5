/-! PURE 16: both searches -/
theorem getD_dr {k : Nat} (hk : k < 326) : allL.drop k = allL.getD k 0 :: allL.drop (k + 1) := by
  have h : k < allL.length := by rw [allL_len]; exact hk
  rw [List.drop_eq_getElem_cons h, List.getD_eq_getElem?_getD, List.getElem?_eq_getElem h]
  rfl
theorem getD_le (k : Nat) (hk : k < 326) : allL.getD k 0 ≤ 54321 := by
  have h : k < allL.length := by rw [allL_len]; exact hk
  have hm : allL.getD k 0 ∈ allL := by
    rw [List.getD_eq_getElem?_getD, List.getElem?_eq_getElem h]
    exact List.getElem_mem h
  exact Nat.le_of_ble_eq_true (List.all_eq_true.mp allL_b _ hm)
theorem bestC {v : HallV} {w : Nat → Int32} {p T h lim lm : Nat} {any : Bool} {rall : Nat → Int32} (G : Goer v w p T h lim) (hr : ∀ j, j < 326 → rall j = nI (allL.getD j 0)) (hlm : lm ≤ 60) : ∀ d fu k a1 a2 a3 a4 a5 a6 (a : Nat × Nat), d + k = 326 → d < fu → a.2 < 2 ^ 63 → ∃ junk, f_X7_bestOf_L11 v rall fu a1 a2 a3 a4 a5 a6 (nI p) (nI lm) (bI any) (nI a.1) (lN a.2) (nI k) = some (nI (List.foldl (stB w p h lim T lm any) a (allL.drop k)).1, junk) := by
  intro d
  induction d with
  | zero =>
    intro fu k a1 a2 a3 a4 a5 a6 a hd hf _
    obtain ⟨fu, rfl⟩ : ∃ m, fu = m + 1 := ⟨fu - 1, by omega⟩
    have e : k = 326 := by omega
    subst e
    have hdr : allL.drop 326 = [] := List.drop_eq_nil_of_le (by rw [allL_len]; exact Nat.le_refl _)
    rw [f_X7_bestOf_L11, if_pos (by decide), hdr]
    exact ⟨_, rfl⟩
  | succ d ih =>
    intro fu k a1 a2 a3 a4 a5 a6 a hd hf ha
    obtain ⟨fu, rfl⟩ : ∃ m, fu = m + 1 := ⟨fu - 1, by omega⟩
    have hk : k < 326 := by omega
    have hxl := getD_le k hk
    have e1 := fun b1 b2 b3 b4 b5 b6 (a' : Nat × Nat) ha' => ih fu (k + 1) b1 b2 b3 b4 b5 b6 a' (by omega) (by omega) ha'
    obtain ⟨g1, g2⟩ := goC_eq (a1 := a1) (a2 := a2) (a3 := a3) (a4 := a4) (a5 := a5) (a6 := a6) G (nI (allL.getD k 0))
    rw [f_X7_bestOf_L11, if_neg (nge hk (by decide)), if_neg (gi hk (by decide)), nI_clamp (by omega), hr k hk, getD_dr hk, List.foldl_cons]
    generalize hxx : allL.getD k 0 = x at hxl g1 g2
    unfold f_X7_bestOf_B57 f_X7_bestOf_B61 f_X7_bestOf_B62 f_X7_bestOf_B94
    rw [nI_1]
    cases hv : val T x with
    | false =>
      obtain ⟨junk, g2⟩ := g2 (fun x' e hx' => by rw [(nI_eq (by omega) hx').mp e] at hv; exact hv)
      rw [g2, Option.bind_some, if_pos rfl, if_pos rfl, stB_no hv]
      exact e1 _ _ _ _ _ _ _ ha
    | true =>
      obtain ⟨hx2, hdg⟩ := val_d hv
      have g1 := g1 x rfl (by omega) hv
      obtain ⟨b1, b2, b3⟩ := stp_b (x := x) G 5 (by omega) hdg
      have b3 : (stp w p h lim x 5).2.2.2.2 < 2 ^ 63 := Nat.lt_of_le_of_lt b3 (by decide)
      have n1 : ¬ (1 : Int32) = 0 := by decide
      have hst : stB w p h lim T lm any a x = if (stp w p h lim x 5).1 ≤ lm ∧ (any = true ∨ (stp w p h lim x 5).2.2.2.1 = false) ∧ (stp w p h lim x 5).2.2.2.2 < a.2 then (x, (stp w p h lim x 5).2.2.2.2) else a := by
        unfold stB
        by_cases c : (stp w p h lim x 5).1 ≤ lm ∧ (any = true ∨ (stp w p h lim x 5).2.2.2.1 = false) ∧ (stp w p h lim x 5).2.2.2.2 < a.2
        · rw [if_pos ⟨hv, c⟩, if_pos c]
        · rw [if_neg (fun z => c z.2), if_neg c]
      rw [hst, g1, Option.bind_some]
      clear g1 g2 hst
      generalize stp w p h lim x 5 = s at b1 b2 b3
      have l1 : nI lm < nI s.1 ↔ lm < s.1 := nI_ltI (by omega) (by omega)
      have l2 : 0 ≤ lg_cmp (lN s.2.2.2.2) (lN a.2) ↔ a.2 ≤ s.2.2.2.2 := by rw [lg_cmp_ge, pk_lLE ha b3]
      have z0 : ∀ o : Bool, (bI o = 0) = (o = false) := fun o => by cases o <;> simp [bI]
      simp only [l1, l2, z0, one0, if_false, if_true]
      by_cases c1 : lm < s.1
      · have hif : ¬ (s.1 ≤ lm ∧ (any = true ∨ s.2.2.2.1 = false) ∧ s.2.2.2.2 < a.2) := fun z => by omega
        rw [if_pos c1, if_neg hif]
        exact e1 _ _ _ _ _ _ _ ha
      · rw [if_neg c1]
        by_cases c2 : a.2 ≤ s.2.2.2.2
        · have hif : ¬ (s.1 ≤ lm ∧ (any = true ∨ s.2.2.2.1 = false) ∧ s.2.2.2.2 < a.2) := fun z => by omega
          rw [if_neg hif]
          simp only [if_pos c2, ite_self]
          exact e1 _ _ _ _ _ _ _ ha
        · rw [if_neg c2, if_neg (gi hk (by decide)), nI_clamp (by omega), hr k hk, hxx]
          cases any with
          | true =>
            have hif : s.1 ≤ lm ∧ (true = true ∨ s.2.2.2.1 = false) ∧ s.2.2.2.2 < a.2 := ⟨by omega, Or.inl rfl, by omega⟩
            rw [if_neg (by decide), if_pos hif]
            exact e1 _ _ _ _ _ _ (x, s.2.2.2.2) b3
          | false =>
            rw [if_pos rfl]
            cases ho : s.2.2.2.1 with
            | false =>
              have hif : s.1 ≤ lm ∧ (false = true ∨ false = false) ∧ s.2.2.2.2 < a.2 := ⟨by omega, Or.inr rfl, by omega⟩
              rw [if_pos rfl, if_pos hif]
              exact e1 _ _ _ _ _ _ (x, s.2.2.2.2) b3
            | true =>
              have hif : ¬ (s.1 ≤ lm ∧ (false = true ∨ true = false) ∧ s.2.2.2.2 < a.2) := fun z => by rcases z.2.1 with y | y <;> exact absurd y (by decide)
              rw [if_neg (by decide), if_neg hif]
              exact e1 _ _ _ _ _ _ _ ha
theorem isRow_val {w : Nat → Int32} {T : Nat} (hT : T ≤ 5) (h73 : w 73 = nI T) (x : Nat) (hx : x < 2 ^ 31) : f_X11_isRow w (nI x) = some (bI (val T x)) := by
  obtain ⟨b, e, h1, h0⟩ := isRow_eq hT h73 (nI x)
  cases b with
  | true =>
    obtain ⟨x', ex, hx', hv⟩ := h1 rfl
    rw [(nI_eq hx hx').mp ex, hv, ← ex]; exact e
  | false => rw [h0 rfl x rfl hx]; exact e
theorem out_L {w : Nat → Int32} {T x : Nat} (hT : T ≤ 5) (hk : ∀ t, t < T → w (74 + t) = nI (kd w t) ∧ kd w t ≤ 5) (hx : x < 100000) (hd : ∀ k, k < 5 → 10 ^ k ≤ x → 1 ≤ dg x k ∧ dg x k ≤ T) : ∀ f fu i o, i + f = 5 → f < fu → ∃ b : Bool, f_X11_isOutright_L4 w fu (bI o) (nI (x / 10 ^ i)) = some (bI b) ∧ (b = true ↔ o = true ∨ ∃ k, i ≤ k ∧ k < 5 ∧ 10 ^ k ≤ x ∧ kd w (dg x k - 1) = 5) := by
  intro f
  induction f with
  | zero =>
    intro fu i o hi hf
    obtain ⟨fu, rfl⟩ : ∃ m, fu = m + 1 := ⟨fu - 1, by omega⟩
    have e : i = 5 := by omega
    subst e
    rw [show x / 10 ^ 5 = 0 from Nat.div_eq_of_lt hx, f_X11_isOutright_L4, if_pos (by decide), if_pos (bI01 _)]
    exact ⟨o, rfl, Or.inl, fun z => z.elim id (fun ⟨k, h1, h2, _⟩ => absurd h2 (by omega))⟩
  | succ f ih =>
    intro fu i o hi hf
    obtain ⟨fu, rfl⟩ : ∃ m, fu = m + 1 := ⟨fu - 1, by omega⟩
    have hle : x / 10 ^ i ≤ x := Nat.div_le_self _ _
    rw [f_X11_isOutright_L4]
    by_cases z : x / 10 ^ i = 0
    · rw [z, if_pos (by decide), if_pos (bI01 _)]
      refine ⟨o, rfl, Or.inl, fun z2 => z2.elim id (fun ⟨k, h1, h2, h3, _⟩ => ?_)⟩
      have hp : 0 < 10 ^ i := Nat.pow_pos (by decide)
      have h4 : x < 10 ^ i := (Nat.div_eq_zero_iff.mp z).resolve_left (by omega)
      have h5 : 10 ^ i ≤ 10 ^ k := Nat.pow_le_pow_right (by decide) h1
      omega
    · have hxi : 10 ^ i ≤ x := by
        rcases Nat.lt_or_ge x (10 ^ i) with h | h
        · exact absurd (Nat.div_eq_of_lt h) z
        · exact h
      obtain ⟨d1, d2⟩ := hd i (by omega) hxi
      obtain ⟨kq, k5⟩ := hk (dg x i - 1) (by omega)
      have i10 : irm (nI (x / 10 ^ i)) (10 : Int32) = nI (dg x i) := irm_n (b := 10) (by omega) (by decide)
      have d10 : nI (x / 10 ^ i) / (10 : Int32) = nI (x / 10 ^ (i + 1)) := by
        rw [show nI (x / 10 ^ i) / (10 : Int32) = nI (x / 10 ^ i / 10) from nI_div (b := 10) (by omega) (by decide), Nat.div_div_eq_div_mul, Nat.pow_succ]
      have ad : ((74 : Int32) + nI (dg x i)) - (1 : Int32) = nI (74 + (dg x i - 1)) := by
        rw [show (74 : Int32) + nI (dg x i) = nI (74 + dg x i) from nI_add 74 _, show nI (74 + dg x i) - (1 : Int32) = nI (74 + dg x i - 1) from nI_sub (b := 1) (by omega)]
        congr 1; omega
      have e5 : nI (kd w (dg x i - 1)) = (5 : Int32) ↔ kd w (dg x i - 1) = 5 := ne_c 5 k5 (by decide)
      have ex : ∀ P : Nat → Prop, (∃ k, i ≤ k ∧ k < 5 ∧ P k) ↔ (P i ∨ ∃ k, i + 1 ≤ k ∧ k < 5 ∧ P k) := fun P => by
        constructor
        · rintro ⟨k, h1, h2, h3⟩
          by_cases e : k = i
          · rw [e] at h3; exact Or.inl h3
          · exact Or.inr ⟨k, by omega, h2, h3⟩
        · rintro (h | ⟨k, h1, h2, h3⟩)
          · exact ⟨i, by omega, by omega, h⟩
          · exact ⟨k, by omega, h2, h3⟩
      obtain ⟨b1, f1, c1⟩ := ih fu (i + 1) true (by omega) (by omega)
      obtain ⟨b0, f0, c0⟩ := ih fu (i + 1) false (by omega) (by omega)
      have f1 : f_X11_isOutright_L4 w fu (1 : Int32) (nI (x / 10 ^ (i + 1))) = _ := f1
      have f0 : f_X11_isOutright_L4 w fu (0 : Int32) (nI (x / 10 ^ (i + 1))) = _ := f0
      rw [if_neg (nI_nle (Nat.pos_of_ne_zero z) (Nat.lt_of_le_of_lt hle (by omega))), i10, ad, gg (by omega) (by omega), nI_clamp (by omega), kq]
      unfold f_X11_isOutright_B30 f_X11_isOutright_B35
      rw [d10, f1, f0]
      simp only [e5]
      rw [ex (fun k => 10 ^ k ≤ x ∧ kd w (dg x k - 1) = 5)]
      cases o with
      | true =>
        rw [if_neg (by decide)]
        exact ⟨b1, rfl, by rw [c1]; exact ⟨fun _ => Or.inl rfl, fun _ => Or.inl rfl⟩⟩
      | false =>
        rw [if_pos (by rfl)]
        by_cases y : kd w (dg x i - 1) = 5
        · rw [if_pos y]
          exact ⟨b1, rfl, by rw [c1]; exact ⟨fun _ => Or.inr (Or.inl ⟨hxi, y⟩), fun _ => Or.inl rfl⟩⟩
        · rw [if_neg y]
          refine ⟨b0, rfl, ?_⟩
          rw [c0]
          constructor
          · rintro (h | h)
            · exact absurd h (by decide)
            · exact Or.inr (Or.inr h)
          · rintro (h | h | h)
            · exact absurd h (by decide)
            · exact absurd h.2 y
            · exact Or.inr h
theorem stp_out (w : Nat → Int32) (p h lim x : Nat) : ∀ j, ((stp w p h lim x j).2.2.2.1 = true ↔ ∃ i, i < j ∧ dgt x i ≠ 0 ∧ kd w (dgt x i - 1) = 5) := by
  intro j
  induction j with
  | zero => exact ⟨fun z => absurd z (by show ¬ false = true; decide), fun ⟨i, h, _⟩ => absurd h (by omega)⟩
  | succ j ih =>
    rw [stp]
    by_cases z : dgt x j = 0
    · rw [if_pos z]
      dsimp only
      rw [ih]
      constructor
      · rintro ⟨i, h1, h2⟩; exact ⟨i, by omega, h2⟩
      · rintro ⟨i, h1, h2, h3⟩
        by_cases e : i = j
        · rw [e] at h2; exact absurd z h2
        · exact ⟨i, by omega, h2, h3⟩
    · rw [if_neg z]
      dsimp only
      rw [Bool.or_eq_true, ih, decide_eq_true_eq]
      constructor
      · rintro (⟨i, h1, h2⟩ | h)
        · exact ⟨i, by omega, h2⟩
        · exact ⟨j, by omega, z, h⟩
      · rintro ⟨i, h1, h2, h3⟩
        by_cases e : i = j
        · rw [e] at h3; exact Or.inr h3
        · exact Or.inl ⟨i, by omega, h2, h3⟩
theorem out_eq {v : HallV} {w : Nat → Int32} {p T h lim x : Nat} (G : Goer v w p T h lim) (hv : val T x = true) : f_X11_isOutright w (nI x) = some (bI (stp w p h lim x 5).2.2.2.1) := by
  obtain ⟨hx2, hdg⟩ := val_d hv
  have hvk : (vok T x 5).1 = true := by
    unfold val at hv
    simp only [Bool.and_eq_true, decide_eq_true_eq] at hv
    exact hv.2
  have hd : ∀ k, k < 5 → 10 ^ k ≤ x → 1 ≤ dg x k ∧ dg x k ≤ T := fun k h1 h2 => by
    have := ((vok_iff T x 5 (by omega)).mp hvk (4 - k) (by omega) (by rw [show 4 - (4 - k) = k from by omega]; exact h2)).1
    have e : dgt x (4 - k) = dg x k := by unfold dgt dg; rw [show 4 - (4 - k) = k from by omega]
    rw [e] at this; exact this
  obtain ⟨b, e, hb⟩ := out_L G.1.1 (fun t ht => (G.2.1 t ht).1.2) (x := x) (by omega) hd 5 FU 0 false (by omega) (FU1 (by omega))
  rw [Nat.pow_zero, Nat.div_one] at e
  have e : f_X11_isOutright w (nI x) = some (bI b) := e
  have eb : b = (stp w p h lim x 5).2.2.2.1 := by
    apply Bool.eq_iff_iff.mpr
    rw [hb, stp_out]
    constructor
    · rintro (z | ⟨k, _, h2, h3, h4⟩)
      · exact absurd z (by decide)
      · have e : dgt x (4 - k) = dg x k := by unfold dgt dg; rw [show 4 - (4 - k) = k from by omega]
        exact ⟨4 - k, by omega, by rw [e]; have := (hd k h2 h3).1; omega, by rw [e]; exact h4⟩
    · rintro ⟨i, h1, h2, h3⟩
      refine Or.inr ⟨4 - i, Nat.zero_le _, by omega, ?_, h3⟩
      rcases Nat.lt_or_ge x (10 ^ (4 - i)) with y | y
      · exact absurd (dgt_small h1 y) h2
      · exact y
  rw [e, eb]

