/-! PURE 23: learn -/
theorem few_eq {v : HallV} {w : Nat → Int32} {nm : Nat → Int64} {M W : Nat} {L : Nat → Nat} {K : Nat → Nat → Nat} (Z : Nite v w nm M W L K) {p r N : Nat} {g : Nat → Nat} {a b mr : Nat → Int32} {x3 : Int32} {rL84 : (Nat → Int32) → (Nat → Int32) → Int32 → Int32 → Int32 → Int32 → Int32 → Option (Int32 × (Nat → Int32) × (Nat → Int32))} (hp : p < M) (hr : r ≤ N) (hN : N ≤ 99) (hg : ∀ j, g j ≤ 240) (ha1 : rowI a (p + 1) N g) (ha0 : rowI a p N (fun j => mxN g (L p) (K p) j 6)) (hb1 : rowI b (p + 1) 99 g) (hb0 : rowI b p 99 (fun j => mxN g (L p) (K p) j 6)) : ∀ d fu fu' k, d + k = 6 → d < fu → d < fu' → (∃ j, k ≤ j ∧ j ≤ 5 ∧ j * L p ≤ r ∧ candN g (L p) (K p) r j = mxN g (L p) (K p) r 6) → ∃ t, t * L p ≤ r ∧ f_X3_fewestTimes_L3 v a fu (nI p) (nI r) (nI k) = some (nI t) ∧ f_X11_learn_L102 w nm rL84 fu' mr b (nI W) x3 (nI r) (nI k) (nI p) = rL84 mr b (nI W) x3 (nI (r - t * L p)) (nI t) (nI (p + 1)) := by
  obtain ⟨zM, zW, zl, zl', zb, zk, zc, zm⟩ := Z
  have hlb := zb p hp
  have hmx : mxN g (L p) (K p) r 6 ≤ 1000 := by
    have := mxN_le (l := L p) (K := K p) (m := r) hg 6 (fun i hi => zk p hp i (by omega))
    omega
  intro d
  induction d with
  | zero =>
    intro fu fu' k hd _ _ hj
    obtain ⟨j, h1, h2, _⟩ := hj
    omega
  | succ d ih =>
    intro fu fu' k hd hf hf' hj
    obtain ⟨fu, rfl⟩ : ∃ m, fu = m + 1 := ⟨fu - 1, by omega⟩
    obtain ⟨fu', rfl⟩ : ∃ m, fu' = m + 1 := ⟨fu' - 1, by omega⟩
    have hk : k ≤ 5 := by omega
    have hcost : k * L p ≤ 5 * 7 := Nat.mul_le_mul hk hlb.2
    have hkk := zk p hp k hk
    have n1 : ¬ (5 : Int32) < nI k := fun z => by have := (nI_ltI (a := 5) (by omega) (by omega)).mp z; omega
    have next : (k * L p ≤ r → ¬ K p k + g (r - k * L p) = mxN g (L p) (K p) r 6) → ∃ t, t * L p ≤ r ∧ f_X3_fewestTimes_L3 v a fu (nI p) (nI r) (nI (k + 1)) = some (nI t) ∧ f_X11_learn_L102 w nm rL84 fu' mr b (nI W) x3 (nI r) (nI (k + 1)) (nI p) = rL84 mr b (nI W) x3 (nI (r - t * L p)) (nI t) (nI (p + 1)) := by
      intro hno
      obtain ⟨j, h1, h2, h3, h4⟩ := hj
      refine ih fu fu' (k + 1) (by omega) (by omega) (by omega) ⟨j, ?_, h2, h3, h4⟩
      by_cases z : j = k
      · subst z
        unfold candN at h4
        rw [if_pos h3] at h4
        exact absurd h4 (hno h3)
      · omega
    rw [f_X3_fewestTimes_L3, if_neg n1, zl p hp, Option.bind_some, zc p hp k hk, Option.bind_some, nI_mul]
    rw [f_X11_learn_L102, gg (by omega) (by omega), nI_clamp (by omega), zl' p hp, Option.bind_some, nI_mul]
    unfold f_X3_fewestTimes_B60 f_X11_learn_B174 f_X11_learn_B198
    by_cases q : k * L p ≤ r
    · have m1 : ((100 : Int32) * (nI p + (1 : Int32)) + nI r) - nI (k * L p) = nI ((p + 1) * 100 + (r - k * L p)) := by
        rw [nI_1, show (100 : Int32) * nI (p + 1) = nI (100 * (p + 1)) from nI_mul 100 (p + 1), nI_add, nI_sub (by omega)]
        congr 1; omega
      have m2 : (100 : Int32) * nI p + nI r = nI (p * 100 + r) := by
        rw [show (100 : Int32) * nI p = nI (100 * p) from nI_mul 100 p, nI_add, Nat.mul_comm]
      have n2 : ¬ nI r - nI (k * L p) < 0 := fun z => by have := (sub_lt0 (by omega) (by omega)).mp z; omega
      have n3 : ¬ nI r < nI (k * L p) := fun z => by have := (nI_ltI (by omega) (by omega)).mp z; omega
      have e1 : f_X3_mostFrom a (nI p + (1 : Int32)) (nI r - nI (k * L p)) = some (nI (g (r - k * L p))) := by
        rw [mf_eq (p := p + 1) (m := r - k * L p) (nI_1 p) (nI_sub q) (by omega), ha1 _ (by omega)]
      have e2 : f_X3_mostFrom a (nI p) (nI r) = some (nI (mxN g (L p) (K p) r 6)) := by
        rw [mf_eq (p := p) (m := r) rfl rfl (by omega), ha0 _ (by omega)]
      have hg1 := hg (r - k * L p)
      rw [e1, Option.bind_some, if_neg n2, e2, Option.bind_some, nI_add]
      rw [if_neg n3, gg' (by omega) (by omega), zm p hp k hk]
      simp only [Option.bind_some, nI_mul]
      rw [m1, gg (by omega) (by omega), nI_clamp (by omega), m2, gg (by omega) (by omega), nI_clamp (by omega), hb1 _ (by omega), hb0 _ (by omega), nI_add, gg' (by omega) (by omega), nI_sub q]
      simp only [nI_1]
      have ei : nI (K p k + g (r - k * L p)) = nI (mxN g (L p) (K p) r 6) ↔ K p k + g (r - k * L p) = mxN g (L p) (K p) r 6 := nI_eq (by omega) (by omega)
      have ei' : nI (g (r - k * L p) + K p k) = nI (mxN g (L p) (K p) r 6) ↔ K p k + g (r - k * L p) = mxN g (L p) (K p) r 6 := by rw [Nat.add_comm]; exact ei
      by_cases y : K p k + g (r - k * L p) = mxN g (L p) (K p) r 6
      · rw [if_pos (ei.mpr y), if_pos (ei'.mpr y)]
        exact ⟨k, q, rfl, rfl⟩
      · rw [if_neg (fun z => y (ei.mp z)), if_neg (fun z => y (ei'.mp z))]
        exact next (fun _ => y)
    · have n2 : nI r - nI (k * L p) < 0 := (sub_lt0 (by omega) (by omega)).mpr (by omega)
      have n3 : nI r < nI (k * L p) := nI_lt (by omega) (by omega)
      obtain ⟨y, e1⟩ := mf_some a (nI p + (1 : Int32)) (nI r - nI (k * L p))
      rw [e1, Option.bind_some, if_pos n2, if_pos n3]
      simp only [nI_1]
      exact next (fun z => absurd z q)
theorem few0 {v : HallV} {w : Nat → Int32} {nm : Nat → Int64} {M W : Nat} {L : Nat → Nat} {K : Nat → Nat → Nat} (Z : Nite v w nm M W L K) {p r N : Nat} {a b mr : Nat → Int32} {x3 : Int32} {rL84 : (Nat → Int32) → (Nat → Int32) → Int32 → Int32 → Int32 → Int32 → Int32 → Option (Int32 × (Nat → Int32) × (Nat → Int32))} (hb : W.testBit p = true) (hr : r ≤ N) (hN : N ≤ 99) (hA : ∀ p, p ≤ 12 → rowI a p N (dN W L K (12 - p))) (hB : ∀ p, p ≤ 12 → rowI b p 99 (dN W L K (12 - p))) : ∃ t, t * L p ≤ r ∧ f_X3_fewestTimes v a (nI p) (nI r) = some (nI t) ∧ f_X11_learn_L102 w nm rL84 FU mr b (nI W) x3 (nI r) (0 : Int32) (nI p) = rL84 mr b (nI W) x3 (nI (r - t * L p)) (nI t) (nI (p + 1)) := by
  have hd := dN_le (W := W) (L := L) (K := K) (fun p hb k hk => Z.2.2.2.2.2.1 p (tbM Z.2.1 hb) k hk)
  have hp : p < M := tbM Z.2.1 hb
  have hM := Z.1
  have hg : ∀ j, dN W L K (12 - (p + 1)) j ≤ 240 := fun j => by have := hd (12 - (p + 1)) j; omega
  obtain ⟨j, h1, h2, h3⟩ := mxN_att (dN W L K (12 - (p + 1))) (L p) (K p) r 5
  exact few_eq Z (p := p) (r := r) (N := N) (mr := mr) (x3 := x3) (rL84 := rL84) hp hr hN hg (hA (p + 1) (by omega)) (fun m hm => by rw [hA p (by omega) m hm, dN_row (by omega), if_pos hb]) (hB (p + 1) (by omega)) (fun m hm => by rw [hB p (by omega) m hm, dN_row (by omega), if_pos hb]) 6 FU FU 0 (by omega) (FU1 (by omega)) (FU1 (by omega)) ⟨j, by omega, h1, h2, h3⟩
theorem tim_eq {v : HallV} {w : Nat → Int32} {nm : Nat → Int64} {M W : Nat} {L : Nat → Nat} {K : Nat → Nat → Nat} (Z : Nite v w nm M W L K) {s N : Nat} {a b mr : Nat → Int32} (hs : W.testBit s = true) (hN : N ≤ 99) (hA : ∀ p, p ≤ 12 → rowI a p N (dN W L K (12 - p))) (hB : ∀ p, p ≤ 12 → rowI b p 99 (dN W L K (12 - p))) : ∀ d fu fu' p r x5 x5', d + p = s → d + 1 < fu → d + 1 < fu' → r ≤ N → ∃ t, f_X3_timesOf_L9 v a (nI W) fu (nI s) (nI r) x5 (nI p) = some t ∧ f_X11_learn_L84 w nm fu' mr b (nI W) (nI s) (nI r) x5' (nI p) = some (t, mr, b) := by
  have hsM : s < M := tbM Z.2.1 hs
  have hM := Z.1
  have hW : W < 2 ^ 31 := p12 Z.1 Z.2.1
  have zl := Z.2.2.1
  intro d
  induction d with
  | zero =>
    intro fu fu' p r x5 x5' hd hf hf' hr
    obtain ⟨fu, rfl⟩ : ∃ m, fu = m + 1 + 1 := ⟨fu - 2, by omega⟩
    obtain ⟨fu', rfl⟩ : ∃ m, fu' = m + 1 + 1 := ⟨fu' - 2, by omega⟩
    have e : p = s := by omega
    subst e
    have n1 : ¬ nI p < nI p := Int32.lt_irrefl
    have n2 : ¬ (12 : Int32) ≤ nI p := nI_ge (a := p) (b := 12) (by omega) (by decide)
    obtain ⟨t, t1, t2, t3⟩ := few0 Z (mr := mr) (x3 := nI p) (rL84 := f_X11_learn_L84 w nm (fu' + 1)) hs hr hN hA hB
    refine ⟨nI t, ?_, ?_⟩
    · rw [f_X3_timesOf_L9, if_neg n1, if_neg n2, (isIn_eq (a := W) (p := p) hW (by omega)).1, Option.bind_some, if_pos hs, if_neg (by decide), t2, Option.bind_some]
      unfold f_X3_timesOf_B47
      rw [zl p hsM, Option.bind_some, nI_1, f_X3_timesOf_L9, if_pos (nI_lt (by omega) (by omega))]
    · rw [f_X11_learn_L84, if_neg n1, (isIn_eq (a := W) (p := p) hW (by omega)).2, Option.bind_some, if_pos hs, if_neg (by decide), t3, f_X11_learn_L84, if_pos (nI_lt (by omega) (by omega))]
  | succ d ih =>
    intro fu fu' p r x5 x5' hd hf hf' hr
    obtain ⟨fu, rfl⟩ : ∃ m, fu = m + 1 := ⟨fu - 1, by omega⟩
    obtain ⟨fu', rfl⟩ : ∃ m, fu' = m + 1 := ⟨fu' - 1, by omega⟩
    have n1 : ¬ nI s < nI p := fun z => by have := (nI_ltI (by omega) (by omega)).mp z; omega
    have n2 : ¬ (12 : Int32) ≤ nI p := nI_ge (a := p) (b := 12) (by omega) (by decide)
    rw [f_X3_timesOf_L9, if_neg n1, if_neg n2, (isIn_eq (a := W) (p := p) hW (by omega)).1, Option.bind_some, f_X11_learn_L84, if_neg n1, (isIn_eq (a := W) (p := p) hW (by omega)).2, Option.bind_some]
    unfold f_X3_timesOf_B47
    by_cases hb : W.testBit p = true
    · obtain ⟨t, t1, t2, t3⟩ := few0 Z (mr := mr) (x3 := nI s) (rL84 := f_X11_learn_L84 w nm fu') hb hr hN hA hB
      rw [if_pos hb, if_neg (by decide), if_neg (by decide), t2, Option.bind_some, zl p (by omega), Option.bind_some, nI_1, nI_mul, nI_sub t1, t3]
      exact ih fu fu' (p + 1) (r - t * L p) (nI t) (nI t) (by omega) (by omega) (by omega) (by omega)
    · rw [if_neg hb, if_pos rfl, if_pos rfl, zl p (by omega), Option.bind_some, nI_1, Int32.zero_mul, Int32.sub_zero]
      unfold f_X11_learn_B198
      rw [nI_1]
      exact ih fu fu' (p + 1) r 0 x5' (by omega) (by omega) (by omega) hr
theorem isIn_some (x y : Int32) : ∃ r, f_X10_isIn x y = some r := by
  unfold f_X10_isIn
  by_cases h1 : y < 0
  · exact ⟨_, if_pos h1⟩
  · rw [if_neg h1]
    by_cases h2 : (32 : Int32) ≤ y
    · exact ⟨_, if_pos h2⟩
    · rw [if_neg h2]
      split
      · exact ⟨_, rfl⟩
      · exact ⟨_, rfl⟩
theorem lrn20 {bads noes fulls b n f : Int32} {now : HallV} {nmost : Nat → Int32} {nl x1 x2 x3 : Int32} {M : Nat} (hM : M ≤ 12) (a1 : now.1 0 = nI M) (c1 : f_X10_countedBadTen bads noes fulls = some (-10, b, n, f)) : f_X10_learn_B20 now bads noes fulls nmost nl x1 x2 x3 = some (-10, b, n, f, nmost, nl) := by
  obtain ⟨y, hy⟩ := isIn_some x1 x3
  have e81 : f_X10_learn_B81 now bads noes fulls nmost nl = some (-10, b, n, f, nmost, nl) := by
    unfold f_X10_learn_B81
    rw [c1] <;> rfl
  have n1 : ¬ (1 : Int32) = 0 := by decide
  have e59 : ∀ s, f_X10_learn_B59 now bads noes fulls nmost nl x1 x2 x3 (1 : Int32) s = some (-10, b, n, f, nmost, nl) := fun s => by
    unfold f_X10_learn_B59
    rw [if_neg n1]; exact e81
  unfold f_X10_learn_B20 f_X10_learn_B25 f_X10_learn_B58 f_X10_learn_B54
  rw [e59, e59, hy, holds_eq a1 (by omega), Option.bind_some, Option.bind_some, ite_self, ite_self, ite_self]
theorem lrn25 {bads noes fulls b n f : Int32} {now : HallV} {nmost : Nat → Int32} {nl x2 x3 : Int32} {W M : Nat} (hM : M ≤ 12) (hW : W < 2 ^ M) (a1 : now.1 0 = nI M) (c1 : f_X10_countedBadTen bads noes fulls = some (-10, b, n, f)) (h : ¬ ((0 ≤ x2 ∧ x2 ≤ 99) ∧ (x3 = -1 ∨ ((0 ≤ x3 ∧ x3 < nI M) ∧ W.testBit x3.toNatClampNeg = true)))) : f_X10_learn_B25 now bads noes fulls nmost nl (nI W) x2 x3 (0 : Int32) = some (-10, b, n, f, nmost, nl) := by
  have e81 : f_X10_learn_B81 now bads noes fulls nmost nl = some (-10, b, n, f, nmost, nl) := by
    unfold f_X10_learn_B81
    rw [c1] <;> rfl
  have n1 : ¬ (1 : Int32) = 0 := by decide
  have e54 : f_X10_learn_B54 now bads noes fulls nmost nl (nI W) x2 x3 (0 : Int32) = some (-10, b, n, f, nmost, nl) := by
    unfold f_X10_learn_B54 f_X10_learn_B59
    rw [if_pos rfl, if_neg n1]; exact e81
  have e58 : ¬ (0 ≤ x2 ∧ x2 ≤ 99) → f_X10_learn_B58 now bads noes fulls nmost nl (nI W) x2 x3 (0 : Int32) = some (-10, b, n, f, nmost, nl) := fun g => by
    unfold f_X10_learn_B58 f_X10_learn_B59
    rw [if_pos rfl, if_pos rfl, within_eq, if_neg g, Option.bind_some, if_pos rfl]; exact e81
  unfold f_X10_learn_B25
  by_cases g3 : x3 = -1
  · rw [if_pos g3]
    exact e58 (fun z => h ⟨z, Or.inl g3⟩)
  · rw [if_neg g3, holds_eq a1 (by omega), a1, Option.bind_some]
    by_cases g4 : 0 ≤ x3 ∧ x3 < nI M
    · obtain ⟨p, rfl, hpM⟩ := ltM (by omega) g4
      rw [if_pos g4, if_neg n1, (isIn_eq (p12 hM hW) (by omega)).1, Option.bind_some]
      by_cases g5 : W.testBit p = true
      · rw [if_pos g5, if_neg n1]
        exact e58 (fun z => h ⟨z, Or.inr ⟨g4, by rw [nI_clamp (by omega)]; exact g5⟩⟩)
      · rw [if_neg g5, if_pos rfl]; exact e54
    · rw [if_neg g4, if_pos rfl]; exact e54
theorem lrn_bad {bads noes fulls b n f : Int32} {now : HallV} {nmost : Nat → Int32} {nl x1 x2 x3 : Int32} {M : Nat} (hM : M ≤ 12) (a1 : now.1 0 = nI M) (c1 : f_X10_countedBadTen bads noes fulls = some (-10, b, n, f)) (h : ¬ ((0 ≤ x1 ∧ x1 < nI (2 ^ M)) ∧ (0 ≤ x2 ∧ x2 ≤ 99) ∧ (x3 = -1 ∨ ((0 ≤ x3 ∧ x3 < nI M) ∧ x1.toNatClampNeg.testBit x3.toNatClampNeg = true)))) : f_X10_learn bads noes fulls now nmost nl x1 x2 x3 = some (-10, b, n, f, nmost, nl) := by
  have hp2 : 2 ^ M ≤ 2 ^ 12 := Nat.pow_le_pow_right (by decide) hM
  have e20 := lrn20 (nmost := nmost) (nl := nl) (x1 := x1) (x2 := x2) (x3 := x3) hM a1 c1
  unfold f_X10_learn
  by_cases g0 : x1 < 0
  · rw [if_pos g0]; exact e20
  · rw [if_neg g0, f_X8_size, Option.bind_some, a1, shb M (by omega)]
    by_cases g1 : x1 < nI (2 ^ M)
    · obtain ⟨W, rfl, hW⟩ := ltM (M := 2 ^ M) (by omega) ⟨Int32.not_lt.mp g0, g1⟩
      rw [nI_clamp (by omega)] at h
      rw [if_pos g1]
      exact lrn25 hM hW a1 c1 (fun z => h ⟨⟨Int32.not_lt.mp g0, g1⟩, z⟩)
    · rw [if_neg g1]; exact e20
theorem lrnM_bad {mr m ml mw : Nat → Int32} {nm : Nat → Int64} {x1 x2 x3 : Int32} {M : Nat} {v : HallV} (hM : M ≤ 12) (a1 : v.1 0 = nI M) (a2 : mw 0 = nI M) (c2 : f_X11_toldElse mr = some (-10, m)) (h : ¬ ((0 ≤ x1 ∧ x1 < nI (2 ^ M)) ∧ (0 ≤ x2 ∧ x2 ≤ 99) ∧ (x3 = -1 ∨ ((0 ≤ x3 ∧ x3 < nI M) ∧ x1.toNatClampNeg.testBit x3.toNatClampNeg = true)))) : f_X11_learn mw nm mr ml x1 x2 x3 = some (-10, m, ml) := by
  have hp2 : 2 ^ M ≤ 2 ^ 12 := Nat.pow_le_pow_right (by decide) hM
  have e53 : f_X11_learn_B53 mw nm mr ml = some (-10, m, ml) := by
    unfold f_X11_learn_B53
    rw [c2] <;> rfl
  have n1 : ¬ (1 : Int32) = 0 := by decide
  unfold f_X11_learn
  rw [if_neg k0.1, k0.2.1, a2, shb M (by omega), in32 (la := 0) 0 (nI (2 ^ M) - 1) (by decide) rfl, Option.bind_some]
  by_cases g1 : 0 ≤ x1 ∧ x1 < nI (2 ^ M)
  · rw [if_pos ((predle (by omega)).mpr g1), if_neg n1, in32 (la := 0) (lb := 99) 0 99 (by decide) (by decide), Option.bind_some]
    by_cases g2 : 0 ≤ x2 ∧ x2 ≤ 99
    · rw [if_pos g2, if_neg n1]
      by_cases g3 : x3 = -1
      · exact absurd ⟨g1, g2, Or.inl g3⟩ h
      · rw [if_neg g3, (isone hM a1 a2 x3).2, Option.bind_some]
        by_cases g4 : 0 ≤ x3 ∧ x3 < nI M
        · obtain ⟨W, rfl, hW⟩ := ltM (M := 2 ^ M) (by omega) g1
          obtain ⟨p, rfl, hpM⟩ := ltM (by omega) g4
          rw [nI_clamp (by omega), nI_clamp (by omega)] at h
          rw [if_pos g4, if_neg n1, (isIn_eq (p12 hM hW) (by omega)).2, Option.bind_some]
          by_cases g5 : W.testBit p = true
          · exact absurd ⟨g1, g2, Or.inr ⟨g4, g5⟩⟩ h
          · rw [if_neg g5, if_pos rfl]; exact e53
        · rw [if_neg g4, if_pos rfl]; exact e53
    · rw [if_neg g2, if_pos rfl]; exact e53
  · rw [if_neg (fun z => g1 ((predle (by omega)).mp z)), if_pos rfl]; exact e53
theorem lrn_good {bads noes fulls : Int32} {now : HallV} {nmost q : Nat → Int32} {nl x3 t : Int32} {M W N : Nat} (hM : M ≤ 12) (hW : W < 2 ^ M) (hN : N ≤ 99) (a1 : now.1 0 = nI M) (h3 : x3 = -1 ∨ (∃ p, p < M ∧ x3 = nI p ∧ W.testBit p = true)) (hp : f_X3_plan now nmost nl (nI W) (nI N) = some (q, nI W)) (ht : (if x3 = -1 then f_X3_mostLeft q (nI N) else f_X3_timesOf now q (nI W) (nI N) x3) = some t) : f_X10_learn bads noes fulls now nmost nl (nI W) (nI N) x3 = some (t, bads, noes, fulls, q, nI W) := by
  have hp2 : 2 ^ M ≤ 2 ^ 12 := Nat.pow_le_pow_right (by decide) hM
  have n1 : ¬ (1 : Int32) = 0 := by decide
  have gN : (0 : Int32) ≤ nI N ∧ nI N ≤ (99 : Int32) := ⟨nI_pos' (by omega), nI_le (b := 99) hN (by decide)⟩
  have e58 : f_X10_learn_B58 now bads noes fulls nmost nl (nI W) (nI N) x3 (0 : Int32) = some (t, bads, noes, fulls, q, nI W) := by
    unfold f_X10_learn_B58 f_X10_learn_B59
    rw [if_pos rfl, if_pos rfl, within_eq, if_pos gN, Option.bind_some, if_neg n1, hp, Option.bind_some]
    by_cases g : x3 = -1
    · rw [if_pos g] at ht ⊢
      rw [ht] <;> rfl
    · rw [if_neg g] at ht ⊢
      rw [ht] <;> rfl
  unfold f_X10_learn f_X10_learn_B25
  rw [if_neg (nI_pos (by omega)), f_X8_size, Option.bind_some, a1, shb M (by omega), if_pos (nI_lt hW (by omega))]
  rcases h3 with g | ⟨p, hpM, rfl, hb⟩
  · rw [if_pos g]; exact e58
  · have g : ¬ nI p = -1 := fun z => nI_pos (n := p) (by omega) (by rw [z]; decide)
    rw [if_neg g, holds_eq rfl (by omega), Option.bind_some, if_pos (ofM (by omega) hpM), if_neg n1, (isIn_eq (p12 hM hW) (by omega)).1, Option.bind_some, if_pos hb, if_neg n1]; exact e58
theorem lrnM_good {mr ml q mw : Nat → Int32} {nm : Nat → Int64} {x3 t : Int32} {M W N : Nat} {v : HallV} (hM : M ≤ 12) (hW : W < 2 ^ M) (hN : N ≤ 99) (a1 : v.1 0 = nI M) (a2 : mw 0 = nI M) (h3 : x3 = -1 ∨ (∃ p, p < M ∧ x3 = nI p ∧ W.testBit p = true)) (hp : f_X11_findNight mw nm ml (nI W) = some q) (ht : (if x3 = -1 then some (q N, mr, q) else f_X11_learn_L84 mw nm FU mr q (nI W) x3 (nI N) (0 : Int32) (0 : Int32)) = some (t, mr, q)) : f_X11_learn mw nm mr ml (nI W) (nI N) x3 = some (t, mr, q) := by
  have hp2 : 2 ^ M ≤ 2 ^ 12 := Nat.pow_le_pow_right (by decide) hM
  have n1 : ¬ (1 : Int32) = 0 := by decide
  have gN : (0 : Int32) ≤ nI N ∧ nI N ≤ (99 : Int32) := ⟨nI_pos' (by omega), nI_le (b := 99) hN (by decide)⟩
  have g1 : (0 : Int32) ≤ nI W ∧ nI W < nI (2 ^ M) := ofM (by omega) hW
  have e58 : f_X11_learn_B58 mw nm mr ml (nI W) (nI N) x3 = some (t, mr, q) := by
    unfold f_X11_learn_B58
    rw [hp, Option.bind_some, gg (by omega) (by omega), nI_clamp (by omega)]
    exact ht
  unfold f_X11_learn
  rw [if_neg k0.1, k0.2.1, a2, shb M (by omega), in32 (la := 0) 0 (nI (2 ^ M) - 1) (by decide) rfl, Option.bind_some, if_pos ((predle (by omega)).mpr g1), if_neg n1, in32 (la := 0) (lb := 99) 0 99 (by decide) (by decide), Option.bind_some, if_pos gN, if_neg n1]
  rcases h3 with g | ⟨p, hpM, rfl, hb⟩
  · rw [if_pos g]; exact e58
  · have g : ¬ nI p = -1 := fun z => nI_pos (n := p) (by omega) (by rw [z]; decide)
    rw [if_neg g, (isone hM a1 a2 (nI p)).2, Option.bind_some, if_pos (ofM (by omega) hpM), if_neg n1, (isIn_eq (p12 hM hW) (by omega)).2, Option.bind_some, if_pos hb, if_neg n1]; exact e58
theorem r_learn {keptImages : Int32} {fab : Int64} {fbe : Int64} {bads : Int32} {noes : Int32} {fulls : Int32} {now : HallV} {bl : Int32} {kp : Int32} {ring : Nat → HallV} {imgs : Nat → HallV} {tlen : Int32} {tby : Nat → Int32} {draft : HallV} {rall : Nat → Int32} {nmost : Nat → Int32} {nlearnt : Int32} {mw : Nat → Int32} {mnames : Nat → Int64} {mkept : Nat → Int32} {mtext : Nat → Int32} {mtexted : Int32} {mundo : Int32} {mabove : Int64} {mbelow : Int64} {mrefused : Nat → Int32} {mleft : Nat → Int32} (hR : Rel now bl kp ring imgs tlen tby draft rall nmost keptImages fab fbe bads noes fulls mw mnames mkept mtext mtexted mundo mabove mbelow mrefused) (x1 : Int32) (x2 : Int32) (x3 : Int32) : ∃ (q : Int32 × Int32 × Int32 × Int32 × (Nat → Int32) × Int32) (q' : Int32 × (Nat → Int32) × (Nat → Int32)), f_X10_learn bads noes fulls now nmost nlearnt x1 x2 x3 = some q ∧ f_X11_learn mw mnames mrefused mleft x1 x2 x3 = some q' ∧ q.1 = q'.1 ∧ Rel now bl kp ring imgs tlen tby draft rall q.2.2.2.2.1 keptImages fab fbe q.2.1 q.2.2.1 q.2.2.2.1 mw mnames mkept mtext mtexted mundo mabove mbelow q'.2.1 := by
  obtain ⟨M, L, K, hM, a1, a2, hZ⟩ := hR.1.nite
  obtain ⟨b, n, f, m, c1, c2, c3⟩ := ct10 hR.2.2.2.2.2.2.2.2
  have hp2 : 2 ^ M ≤ 2 ^ 12 := Nat.pow_le_pow_right (by decide) hM
  by_cases G : (0 ≤ x1 ∧ x1 < nI (2 ^ M)) ∧ (0 ≤ x2 ∧ x2 ≤ 99) ∧ (x3 = -1 ∨ ((0 ≤ x3 ∧ x3 < nI M) ∧ x1.toNatClampNeg.testBit x3.toNatClampNeg = true))
  · obtain ⟨g1, g2, g3⟩ := G
    obtain ⟨W, rfl, hW⟩ := ltM (M := 2 ^ M) (by omega) g1
    obtain ⟨N, rfl, _, hN⟩ := (inN_iff (x := x2) (a := 0) (b := 99) (by decide) (by decide)).mpr g2
    rw [nI_clamp (by omega)] at g3
    have h3 : x3 = -1 ∨ (∃ p, p < M ∧ x3 = nI p ∧ W.testBit p = true) := by
      rcases g3 with g | ⟨g4, g5⟩
      · exact Or.inl g
      · obtain ⟨p, rfl, hpM⟩ := ltM (by omega) g4
        rw [nI_clamp (by omega)] at g5
        exact Or.inr ⟨p, hpM, rfl, g5⟩
    have Z := hZ W hW
    obtain ⟨h1, h2, h3', h4, h5, h6, h7, h8, h9⟩ := id hR
    obtain ⟨q, p1, p2, p3⟩ := plan_eq Z (N := N) (nl := nlearnt) hN h7
    obtain ⟨q', n1, n2⟩ := night_eq Z mleft
    have key : ∃ t, (if x3 = -1 then f_X3_mostLeft q (nI N) else f_X3_timesOf now q (nI W) (nI N) x3) = some t ∧ (if x3 = -1 then some (q' N, mrefused, q') else f_X11_learn_L84 mw mnames FU mrefused q' (nI W) x3 (nI N) (0 : Int32) (0 : Int32)) = some (t, mrefused, q') := by
      rcases h3 with g | ⟨p, hpM, rfl, hb⟩
      · rw [if_pos g, if_pos g]
        have r1 := p2 0 (by omega) N (Nat.le_refl _)
        have r2 := n2 0 (by omega) N hN
        rw [Nat.zero_mul, Nat.zero_add] at r1 r2
        refine ⟨nI (dN W L K (12 - 0) N), ?_, by rw [r2]⟩
        unfold f_X3_mostLeft
        rw [mf_eq (x := 0) (y := nI N) (p := 0) (m := N) rfl rfl (by omega), Nat.zero_mul, Nat.zero_add, r1] <;> rfl
      · have g : ¬ nI p = -1 := fun z => nI_pos (n := p) (by omega) (by rw [z]; decide)
        rw [if_neg g, if_neg g]
        exact tim_eq Z (mr := mrefused) hb hN p2 n2 p FU FU 0 N 0 0 (by omega) (FU1 (by omega)) (FU1 (by omega)) (Nat.le_refl _)
    obtain ⟨t, t1, t2⟩ := key
    exact ⟨_, _, lrn_good hM hW hN a1 h3 p1 t1, lrnM_good hM hW hN a1 a2 h3 n1 t2, rfl, h1, h2, h3', h4, h5, h6, p3, h8, h9⟩
  · exact ⟨_, _, lrn_bad hM a1 c1 G, lrnM_bad hM a1 a2 c2 G, rfl, hR.now hR.1 (fun _ _ => rfl) (fun _ _ => rfl) c3⟩
