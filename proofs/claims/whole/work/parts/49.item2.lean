/-! PURE 27: an item -/
theorem rest_or {n : Nat} {tby mt : Nat → Int32} {c : Nat → Nat} (T : Txt n tby mt c) {w i b : Nat} (hw : w < 5) (hi : i < 60) (hb : b ≤ n) {nm : Int64} {it rf : Int32} {dr : HallV} {nu iw mn : Nat → Int32} {inm : Nat → Int64} :
    (∃ (f : Nat) (q : Int32 × Int32 × Int32 × Int64 × Int32 × Int32 × Int32 × HallV × (Nat → Int32)) (q' : (Nat → Int32) × (Nat → Int64) × (Nat → Int32) × Int32 × Int32 × Int32), f ≤ 300 ∧ f_X6_readItem_L62 (nI n) tby FU (nI (tk c n b)) (nI (sk c n b)) (nI (te c n b)) nm it (-1 : Int32) rf dr nu (nI w) (0 : Int32) = some q ∧ q.2.2.2.2.2.1 = nI f ∧ q.2.2.2.2.2.2.2.1 = dr ∧ f_X11_takeItem_L89 mt (nI n) FU iw inm mn (nI i) (nI b) (-1 : Int32) (nI w) (0 : Int32) = some q' ∧ q'.2.2.2.2.2 = nI f) ∨
    (∃ (bn : Nat) (nu' mn' : Nat → Int32), b + 2 ≤ bn ∧ bn ≤ n ∧ f_X6_readItem_L62 (nI n) tby FU (nI (tk c n b)) (nI (sk c n b)) (nI (te c n b)) nm it (-1 : Int32) rf dr nu (nI w) (0 : Int32) = tellR (nI (tk c n bn)) (nI (sk c n bn)) (nI (te c n bn)) nm it rf dr nu' (nI w) ∧ f_X11_takeItem_L89 mt (nI n) FU iw inm mn (nI i) (nI b) (-1 : Int32) (nI w) (0 : Int32) = some (iw, inm, mn', nI (i + 1), nI bn, (-1 : Int32)) ∧ (∀ k, k < cnt w → nu' k = mn' (5 * i + k)) ∧ (∀ j, j < 5 * i → mn' j = mn j)) := by
  have hc := cnt_b w hw
  have e0 : ∀ y : Int32, y = nI 0 →
    ((∃ (f : Nat) (q : Int32 × Int32 × Int32 × Int64 × Int32 × Int32 × Int32 × HallV × (Nat → Int32)) (q' : (Nat → Int32) × (Nat → Int64) × (Nat → Int32) × Int32 × Int32 × Int32), f ≤ 300 ∧ f_X6_readItem_L62 (nI n) tby FU (nI (tk c n b)) (nI (sk c n b)) (nI (te c n b)) nm it (-1 : Int32) rf dr nu (nI w) y = some q ∧ q.2.2.2.2.2.1 = nI f ∧ q.2.2.2.2.2.2.2.1 = dr ∧ f_X11_takeItem_L89 mt (nI n) FU iw inm mn (nI i) (nI b) (-1 : Int32) (nI w) y = some q' ∧ q'.2.2.2.2.2 = nI f) ∨
    (∃ (bn : Nat) (nu' mn' : Nat → Int32), b + 2 ≤ bn ∧ bn ≤ n ∧ f_X6_readItem_L62 (nI n) tby FU (nI (tk c n b)) (nI (sk c n b)) (nI (te c n b)) nm it (-1 : Int32) rf dr nu (nI w) y = tellR (nI (tk c n bn)) (nI (sk c n bn)) (nI (te c n bn)) nm it rf dr nu' (nI w) ∧ f_X11_takeItem_L89 mt (nI n) FU iw inm mn (nI i) (nI b) (-1 : Int32) (nI w) y = some (iw, inm, mn', nI (i + 1), nI bn, (-1 : Int32)) ∧ (∀ k, k < cnt w → nu' k = mn' (5 * i + k)) ∧ (∀ j, j < 5 * i → mn' j = mn j))) := by
    intro y hy
    subst hy
    rcases nums T hw hi (nm := nm) (it := it) (rf := rf) (dr := dr) (iw := iw) (inm := inm) (cnt w) 0 b nu mn FU FU (by omega) (FU1 (by omega)) (FU1 (by omega)) hb with ⟨f, a1, a2, a3, nu', q', h1, h2, h3, h4⟩ | ⟨b', nu', mn', h1, h2, h3, h4, h5, h6, h7⟩
    · exact Or.inl ⟨f, _, q', h1, h2, rfl, rfl, h3, h4⟩
    · rw [h3, h4]
      rcases stop_or T (w := w) (i := i) h2 (nm := nm) (it := it) (rf := rf) (dr := dr) (nu := nu') (iw := iw) (mn := mn') (inm := inm) with ⟨f, a1, a2, a3, q', g1, g2, g3, g4⟩ | ⟨bn, g1, g2, g3, g4⟩
      · exact Or.inl ⟨f, _, q', g1, g2, rfl, rfl, g3, g4⟩
      · exact Or.inr ⟨bn, nu', mn', by omega, g2, g3, g4, fun k hk => h6 k (Nat.zero_le _) hk, fun j hj => h7 j (by omega)⟩
  exact e0 0 rfl
theorem none_C {tl : Int32} {tby : Nat → Int32} {k s b it rf : Int32} {nm : Int64} {dr : HallV} {nu : Nat → Int32} (h : ¬ s = -1) : f_X6_readItem_B16 tl tby k s b nm it (-1 : Int32) rf dr nu (-1 : Int32) = some (k, s, b, nm, it, s, rf, dr, nu) := by
  unfold f_X6_readItem_B16 f_X6_readItem_B28 f_X6_readItem_B60
  rw [if_pos rfl, ex_no, Option.bind_some, if_neg (by decide)]
  exact fl62 h cnt_n.1 (FU1 (by omega))
theorem none_M {mt : Nat → Int32} {tx at' fl s1 : Int32} {i : Nat} {iw mn : Nat → Int32} {inm : Nat → Int64} (hi : i < 60) (h : ¬ s1 = -1) : f_X11_takeItem_B27 mt tx iw inm mn (nI i) at' fl (-1 : Int32) s1 = some (upd iw i (-1), inm, mn, nI i + 1, at' + 1, s1) := by
  unfold f_X11_takeItem_B27 f_X11_takeItem_B87
  rw [gg (by omega) (by omega), nI_clamp (by omega), if_neg (by decide)]
  exact fl89 h cnt_n.2 (FU1 (by omega))
set_option maxHeartbeats 1000000 in
theorem item_or {n : Nat} {tby mt : Nat → Int32} {c : Nat → Nat} (T : Txt n tby mt c) {i b : Nat} (hi : i < 60) (hb : b ≤ n) (hsn : sk c n b < n) {nm : Int64} {it rf : Int32} {dr : HallV} {nu iw mn : Nat → Int32} {inm : Nat → Int64} :
    (∃ (f : Nat) (q : Int32 × Int32 × Int32 × Int64 × Int32 × Int32 × Int32 × HallV × (Nat → Int32)) (q' : (Nat → Int32) × (Nat → Int64) × (Nat → Int32) × Int32 × Int32 × Int32), f ≤ 300 ∧ f_X6_readItem (nI n) tby (nI (tk c n b)) (nI (sk c n b)) (nI (te c n b)) nm it (-1 : Int32) rf dr nu = some q ∧ q.2.2.2.2.2.1 = nI f ∧ q.2.2.2.2.2.2.2.1 = dr ∧ f_X11_takeItem mt (nI n) iw inm mn (nI i) (nI (sk c n b)) (-1 : Int32) = some q' ∧ q'.2.2.2.2.2 = nI f) ∨
    (∃ (bn w : Nat) (nm' : Int64) (nu' mn' : Nat → Int32) (inm' : Nat → Int64), w < 5 ∧ b + 5 ≤ bn ∧ bn ≤ n ∧ f_X6_readItem (nI n) tby (nI (tk c n b)) (nI (sk c n b)) (nI (te c n b)) nm it (-1 : Int32) rf dr nu = tellR (nI (tk c n bn)) (nI (sk c n bn)) (nI (te c n bn)) nm' it rf dr nu' (nI w) ∧ f_X11_takeItem mt (nI n) iw inm mn (nI i) (nI (sk c n b)) (-1 : Int32) = some (upd iw i (nI w), inm', mn', nI (i + 1), nI bn, (-1 : Int32)) ∧ (w = 0 → nm' = inm' i ∨ (nm' = 0 ∧ inm' i = -1)) ∧ (∀ j, j < i → inm' j = inm j) ∧ (∀ k, k < cnt w → nu' k = mn' (5 * i + k)) ∧ (∀ j, j < 5 * i → mn' j = mn j)) := by
  have hn := T.1
  have hs := sk_le (c := c) hb
  have tkv : tk c n b = if zL (c (sk c n b)) = true then 1 else tk c n b := by
    by_cases ql : zL (c (sk c n b)) = true
    · rw [if_pos ql]; unfold tk; rw [if_neg (by omega), if_pos ql]
    · rw [if_neg ql]
  have tev : zL (c (sk c n b)) = true → te c n b = lf c n (sk c n b) := fun ql => by unfold te; rw [if_neg (by omega), if_pos ql]
  have tkn : ¬ zL (c (sk c n b)) = true → ¬ tk c n b = 1 ∧ tk c n b < 5 := fun ql => by
    unfold tk
    rw [if_neg (by omega), if_neg ql]
    split
    · split <;> decide
    · split <;> decide
  have fl : ¬ nI (sk c n b) = -1 := nIm1 (by omega)
  have hl := lf_le (c := c) (Nat.le_of_lt hsn)
  unfold f_X6_readItem f_X11_takeItem
  rw [tl_eq T (Nat.le_of_lt hsn)]
  simp only [Option.bind_some]
  by_cases ql : zL (c (sk c n b)) = true
  · rw [if_pos ql] at tkv
    have k1 : nI (tk c n b) = (1 : Int32) := by rw [tkv]; rfl
    have hlg := lf_gt hsn ql
    obtain ⟨r, w1, w2, w3⟩ := what_eq T (s := sk c n b) (e := lf c n (sk c n b)) hl.1 hl.2 (fun j j1 j2 => zup_all (P := fun j => zL (c j)) j1 j2)
    rw [k1, if_pos rfl, tev ql, w1, Option.bind_some, w2, Option.bind_some]
    rcases w3 with rfl | ⟨w, hw, rfl, h3⟩
    · rw [if_pos rfl, none_C fl]
      refine Or.inl ⟨sk c n b, _, _, by omega, rfl, rfl, rfl, none_M hi fl, rfl⟩
    · have nw : ¬ nI w = -1 := nIm1 (by omega)
      have w0 : nI w = 0 ↔ w = 0 := nI_eq (b := 0) (by omega) (by omega)
      have hc := cnt_b w hw
      rw [if_neg nw]
      unfold f_X6_readItem_B16 f_X6_readItem_B28 f_X6_readItem_B60 f_X11_takeItem_B27 f_X11_takeItem_B84 f_X11_takeItem_B87
      rw [if_neg nw, ex_ok T hl.2, Option.bind_some, gg hi (by omega), nI_clamp (by omega)]
      generalize hb1 : lf c n (sk c n b) = b1 at hl hlg h3 ⊢
      by_cases q0 : w = 0
      · subst q0
        have hs1 := sk_le (c := c) hl.2
        have hte := te_le (c := c) hl.2
        have fl1 : ¬ nI (sk c n b1) = -1 := nIm1 (by omega)
        have hlf := lf_le (c := c) hs1.2
        rw [if_pos (w0.mpr rfl), if_pos (w0.mpr rfl)]
        simp only [wn_eq T hte.1 hte.2, Option.bind_some, end_eq T hl.2, tl_eq T hs1.2]
        simp (disch := omega) only [gg']
        by_cases q1 : sk c n b1 < n ∧ zL (c (sk c n b1)) = true
        · have t1 : tk c n b1 = 1 := by unfold tk; rw [if_neg (by omega), if_pos q1.2]
          have e1 : te c n b1 = lf c n (sk c n b1) := by unfold te; rw [if_neg (by omega), if_pos q1.2]
          have k1' : nI (tk c n b1) = (1 : Int32) := by rw [t1]; rfl
          have hg := lf_gt q1.1 q1.2
          have nq : ¬ nI (lf c n (sk c n b1)) = nI (sk c n b1) := fun z => by have := (nI_eq (by omega) (by omega)).mp z; omega
          rw [if_pos k1', if_neg nq, k1']
          unfold f_X6_readItem_B57 f_X6_readItem_B60
          rw [ex_ok T hte.2, Option.bind_some, e1]
          rcases rest_or T (w := 0) (i := i) (b := lf c n (sk c n b1)) (by decide) hi hlf.2 (nm := if lf c n (sk c n b1) - sk c n b1 ≤ 7 then lv7 c (sk c n b1) (lf c n (sk c n b1) - sk c n b1) else 0) (it := it) (rf := rf) (dr := dr) (nu := nu) (iw := upd iw i (nI 0)) (mn := mn) (inm := vp_updL inm i (lv7 c (sk c n b1) (lf c n (sk c n b1) - sk c n b1))) with ⟨f, q, q', h1, h2, h4, h5, h6, h7⟩ | ⟨bn, nu', mn', h1, h2, h4, h5, h6, h7⟩
          · exact Or.inl ⟨f, q, q', h1, h2, h4, h5, h6, h7⟩
          · refine Or.inr ⟨bn, 0, _, nu', mn', _, by decide, by omega, h2, h4, h5, fun _ => ?_, fun j hj => by rw [updL_n (by omega)], h6, h7⟩
            rw [updL_s]
            by_cases q7 : lf c n (sk c n b1) - sk c n b1 ≤ 7
            · rw [if_pos q7]; exact Or.inl rfl
            · rw [if_neg q7]; exact Or.inr ⟨rfl, lv_more (by omega)⟩
        · have elf : lf c n (sk c n b1) = sk c n b1 := by
            by_cases z : sk c n b1 < n
            · have : zL (c (sk c n b1)) = false := by
                cases hz : zL (c (sk c n b1))
                · rfl
                · exact absurd ⟨z, hz⟩ q1
              exact zup_f this
            · exact zup_e (by omega)
          have t1 : ¬ tk c n b1 = 1 ∧ tk c n b1 < 5 := by
            unfold tk
            by_cases z : n ≤ sk c n b1
            · rw [if_pos z]; decide
            · have nl : ¬ zL (c (sk c n b1)) = true := fun y => q1 ⟨by omega, y⟩
              rw [if_neg z, if_neg nl]
              split
              · split <;> decide
              · split <;> decide
          have k1' : ¬ nI (tk c n b1) = (1 : Int32) := fun z => t1.1 ((nI_eq (b := 1) (by omega) (by omega)).mp z)
          rw [if_neg k1', elf, if_pos rfl]
          unfold f_X6_readItem_B57 f_X6_readItem_B60
          rw [ex_no, Option.bind_some]
          exact Or.inl ⟨sk c n b1, _, _, by omega, fl62 fl1 (cnt_c 0 (by decide)) (FU1 (by omega)), rfl, rfl, fl89 fl1 (cnt_m 0 (by decide)) (FU1 (by omega)), rfl⟩
      · rw [if_neg (fun z => q0 (w0.mp z)), if_neg (fun z => q0 (w0.mp z))]
        rcases rest_or T (w := w) (i := i) (b := b1) hw hi hl.2 (nm := nm) (it := it) (rf := rf) (dr := dr) (nu := nu) (iw := upd iw i (nI w)) (mn := mn) (inm := inm) with ⟨f, q, q', h1, h2, h4, h5, h6, h7⟩ | ⟨bn, nu', mn', h1, h2, h4, h5, h6, h7⟩
        · exact Or.inl ⟨f, q, q', h1, h2, h4, h5, h6, h7⟩
        · exact Or.inr ⟨bn, w, nm, nu', mn', inm, hw, by omega, h2, h4, h5, fun z => absurd z q0, fun _ _ => rfl, h6, h7⟩
  · have ht := tkn ql
    have k1 : ¬ nI (tk c n b) = (1 : Int32) := fun z => ht.1 ((nI_eq (b := 1) (by omega) (by omega)).mp z)
    have nl : zL (c (sk c n b)) = false := by simpa using ql
    have elf : lf c n (sk c n b) = sk c n b := zup_f nl
    have wo : f_X11_wordOf (lv7 c (sk c n b) 0) = some (-1) := by
      show f_X11_wordOf (0 : Int64) = some (-1)
      decide
    rw [if_neg k1, none_C fl, elf, Nat.sub_self, wo, Option.bind_some, if_pos rfl]
    exact Or.inl ⟨sk c n b, _, _, by omega, rfl, rfl, rfl, none_M hi fl, rfl⟩
