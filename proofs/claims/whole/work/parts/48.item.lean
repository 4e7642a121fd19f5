/-! PURE 26: items -/
def cnt (w : Nat) : Nat := if w = 0 then 5 else if w = 1 then 3 else if w = 2 then 2 else 1
theorem cnt_b : ∀ w, w < 5 → 1 ≤ cnt w ∧ cnt w ≤ 5 := by decide
theorem cnt_c : ∀ w, w < 5 → f_X10_at_s 5 (nI w) = some (nI (cnt w)) := by decide +kernel
theorem cnt_m : ∀ w, w < 5 → f_X11_numbersOf (nI w) = some (nI (cnt w)) := by decide +kernel
theorem cnt_n : f_X10_at_s 5 (-1 : Int32) = some 0 ∧ f_X11_numbersOf (-1 : Int32) = some 1 := by decide +kernel
theorem nIm1 {k : Nat} (h : k < 2 ^ 31) : ¬ nI k = -1 := fun z => nI_pos (n := k) h (by rw [z]; decide)
theorem ex_ok {n : Nat} {tby mt : Nat → Int32} {c : Nat → Nat} (T : Txt n tby mt c) {k s : Int32} {b : Nat} (hb : b ≤ n) : f_X6_expect (nI n) tby k s (nI b) (-1 : Int32) (1 : Int32) = some (nI (tk c n b), nI (sk c n b), nI (te c n b), (-1 : Int32)) := by
  unfold f_X6_expect
  rw [if_pos rfl, if_neg (by decide), step_eq T k s hb] <;> rfl
theorem ex_no {tl : Int32} {tby : Nat → Int32} {k s b : Int32} : f_X6_expect tl tby k s b (-1 : Int32) (0 : Int32) = some (k, s, b, s) := by
  unfold f_X6_expect
  rw [if_pos rfl, if_pos rfl]
theorem ex_fl {tl : Int32} {tby : Nat → Int32} {k s b f x : Int32} (h : ¬ f = -1) : f_X6_expect tl tby k s b f x = some (k, s, b, f) := by
  unfold f_X6_expect
  rw [if_neg h]
theorem fl116 {tl : Int32} {tby : Nat → Int32} {k s b it f rf x1 : Int32} {nm : Int64} {dr : HallV} {nu : Nat → Int32} (h : ¬ f = -1) : f_X6_readItem_B116 tl tby k s b nm it f rf dr nu x1 = some (k, s, b, nm, it, f, rf, dr, nu) := by
  have e : ∀ y, f_X6_readItem_B130 tl tby k s b nm it f rf dr nu x1 y = some (k, s, b, nm, it, f, rf, dr, nu) := fun y => by
    unfold f_X6_readItem_B130
    rw [ex_fl h, Option.bind_some]
    exact if_neg h
  unfold f_X6_readItem_B116
  rw [e, e, ite_self]
theorem fl62 {tl : Int32} {tby : Nat → Int32} {k s b it f rf x1 x2 y : Int32} {nm : Int64} {dr : HallV} {nu : Nat → Int32} (h : ¬ f = -1) (hx : f_X10_at_s 5 x1 = some y) {fu : Nat} (hf : 0 < fu) : f_X6_readItem_L62 tl tby fu k s b nm it f rf dr nu x1 x2 = some (k, s, b, nm, it, f, rf, dr, nu) := by
  obtain ⟨fu, rfl⟩ : ∃ m, fu = m + 1 := ⟨fu - 1, by omega⟩
  rw [f_X6_readItem_L62, hx, Option.bind_some, if_neg h, fl116 h, ite_self]
theorem fl128 {mt : Nat → Int32} {tx it at' f : Int32} {iw mn : Nat → Int32} {inm : Nat → Int64} (h : ¬ f = -1) : f_X11_takeItem_B128 mt tx iw inm mn it at' f = some (iw, inm, mn, it + 1, at' + 1, f) := by
  unfold f_X11_takeItem_B128 f_X11_takeItem_B165
  rw [if_neg h]
theorem fl89 {mt : Nat → Int32} {tx it at' f x2 x3 y : Int32} {iw mn : Nat → Int32} {inm : Nat → Int64} (h : ¬ f = -1) (hx : f_X11_numbersOf x2 = some y) {fu : Nat} (hf : 0 < fu) : f_X11_takeItem_L89 mt tx fu iw inm mn it at' f x2 x3 = some (iw, inm, mn, it + 1, at' + 1, f) := by
  obtain ⟨fu, rfl⟩ : ∃ m, fu = m + 1 := ⟨fu - 1, by omega⟩
  rw [f_X11_takeItem_L89, hx, Option.bind_some, if_neg h, fl128 h, ite_self]
theorem ff_le {c : Nat → Nat} {n s : Nat} (h : s ≤ n) : s ≤ ff c n s ∧ ff c n s ≤ n := zup_le h
theorem lf_le {c : Nat → Nat} {n s : Nat} (h : s ≤ n) : s ≤ lf c n s ∧ lf c n s ≤ n := zup_le h
theorem ff_gt {c : Nat → Nat} {n s : Nat} (h : s < n) (hp : zF (c s) = true) : s + 1 ≤ ff c n s := by
  unfold ff
  rw [zup_t h hp]
  exact (zup_le (by omega)).1
theorem lf_gt {c : Nat → Nat} {n s : Nat} (h : s < n) (hp : zL (c s) = true) : s + 1 ≤ lf c n s := by
  unfold lf
  rw [zup_t h hp]
  exact (zup_le (by omega)).1
theorem te_le {c : Nat → Nat} {n b : Nat} (hb : b ≤ n) : sk c n b ≤ te c n b ∧ te c n b ≤ n := by
  have hs := sk_le (c := c) hb
  unfold te
  generalize sk c n b = s at hs ⊢
  by_cases q : n ≤ s
  · rw [if_pos q]; omega
  · rw [if_neg q]
    by_cases ql : zL (c s) = true
    · rw [if_pos ql]; exact lf_le hs.2
    · rw [if_neg ql]
      by_cases qf : zF (c s) = true
      · rw [if_pos qf]; exact ff_le hs.2
      · rw [if_neg qf]; omega
/-- a number, or none -/
theorem num_or {n : Nat} {tby mt : Nat → Int32} {c : Nat → Nat} (T : Txt n tby mt c) {b : Nat} (hb : b ≤ n) : (tk c n b = 2 ∧ te c n b = ff c n (sk c n b) ∧ b + 1 ≤ te c n b ∧ te c n b ≤ n ∧ f_X11_takeNumber mt (nI n) (nI b) (-1 : Int32) = some (nv c (sk c n b) (te c n b - sk c n b), nI (te c n b), (-1 : Int32))) ∨ (tk c n b ≠ 2 ∧ tk c n b < 5 ∧ ∃ v m, f_X11_takeNumber mt (nI n) (nI b) (-1 : Int32) = some (v, m, nI (sk c n b))) := by
  have hs := sk_le (c := c) hb
  by_cases q : sk c n b = n
  · refine Or.inr ⟨?_, ?_, -1, nI n, ?_⟩
    · unfold tk; rw [if_pos (by omega)]; decide
    · unfold tk; rw [if_pos (by omega)]; decide
    · rw [tn_end T hb q, q]
  · obtain ⟨v, h1, h2⟩ := tn_eq T (flt := -1) hb rfl (show sk c n b < n by omega)
    unfold tk te
    generalize sk c n b = s at hs q h1 h2 ⊢
    have nl : ¬ n ≤ s := by omega
    rw [if_neg nl, if_neg nl]
    have hf := ff_le (c := c) hs.2
    by_cases ql : zL (c s) = true
    · have nf : zF (c s) = false := by
        have a := zL_iff.mp ql
        cases hz : zF (c s)
        · rfl
        · have := zF_iff.mp hz; omega
      have e : ff c n s = s := zup_f nf
      rw [if_pos ql, if_pos ql]
      rw [e, if_pos (Or.inl rfl)] at h1
      exact Or.inr ⟨by decide, by decide, v, _, h1⟩
    · rw [if_neg ql, if_neg ql]
      by_cases qf : zF (c s) = true
      · have hg := ff_gt (show s < n by omega) qf
        rw [if_pos qf, if_pos qf]
        by_cases q2 : ff c n s - s ≤ 2
        · rw [if_pos q2]
          rw [if_neg (by omega), h2 q2] at h1
          exact Or.inl ⟨rfl, rfl, by omega, hf.2, h1⟩
        · rw [if_neg q2]
          rw [if_pos (by omega)] at h1
          exact Or.inr ⟨by decide, by decide, v, _, h1⟩
      · have nf : zF (c s) = false := by simpa using qf
        have e : ff c n s = s := zup_f nf
        rw [if_neg qf]
        rw [e, if_pos (Or.inl rfl)] at h1
        refine Or.inr ⟨?_, ?_, v, _, h1⟩
        · split <;> decide
        · split <;> decide
set_option maxHeartbeats 1000000 in
theorem nums {n : Nat} {tby mt : Nat → Int32} {c : Nat → Nat} (T : Txt n tby mt c) {w i : Nat} (hw : w < 5) (hi : i < 60) {nm : Int64} {it rf : Int32} {dr : HallV} {iw : Nat → Int32} {inm : Nat → Int64} : ∀ d k b (nu mn : Nat → Int32) fu fu', d + k = cnt w → d + 1 < fu → d + 1 < fu' → b ≤ n →
    (∃ (f : Nat) (a1 a2 a3 : Int32) (nu' : Nat → Int32) (q' : (Nat → Int32) × (Nat → Int64) × (Nat → Int32) × Int32 × Int32 × Int32), f ≤ 300 ∧ f_X6_readItem_L62 (nI n) tby fu (nI (tk c n b)) (nI (sk c n b)) (nI (te c n b)) nm it (-1 : Int32) rf dr nu (nI w) (nI k) = some (a1, a2, a3, nm, it, nI f, rf, dr, nu') ∧ f_X11_takeItem_L89 mt (nI n) fu' iw inm mn (nI i) (nI b) (-1 : Int32) (nI w) (nI k) = some q' ∧ q'.2.2.2.2.2 = nI f) ∨
    (∃ (b' : Nat) (nu' mn' : Nat → Int32), b + d ≤ b' ∧ b' ≤ n ∧ f_X6_readItem_L62 (nI n) tby fu (nI (tk c n b)) (nI (sk c n b)) (nI (te c n b)) nm it (-1 : Int32) rf dr nu (nI w) (nI k) = f_X6_readItem_B116 (nI n) tby (nI (tk c n b')) (nI (sk c n b')) (nI (te c n b')) nm it (-1 : Int32) rf dr nu' (nI w) ∧ f_X11_takeItem_L89 mt (nI n) fu' iw inm mn (nI i) (nI b) (-1 : Int32) (nI w) (nI k) = f_X11_takeItem_B128 mt (nI n) iw inm mn' (nI i) (nI b') (-1 : Int32) ∧ (∀ j, j < k → nu' j = nu j) ∧ (∀ j, k ≤ j → j < cnt w → nu' j = mn' (5 * i + j)) ∧ (∀ j, j < 5 * i + k → mn' j = mn j)) := by
  have hn := T.1
  have hc := cnt_b w hw
  intro d
  induction d with
  | zero =>
    intro k b nu mn fu fu' hk hf hf' hb
    obtain ⟨fu, rfl⟩ : ∃ m, fu = m + 1 := ⟨fu - 1, by omega⟩
    obtain ⟨fu', rfl⟩ : ∃ m, fu' = m + 1 := ⟨fu' - 1, by omega⟩
    have e : k = cnt w := by omega
    subst e
    refine Or.inr ⟨b, nu, mn, by omega, hb, ?_, ?_, fun _ _ => rfl, fun j h1 h2 => absurd h2 (by omega), fun _ _ => rfl⟩
    · rw [f_X6_readItem_L62, cnt_c w hw, Option.bind_some, if_pos (Int32.le_refl _)]
    · rw [f_X11_takeItem_L89, cnt_m w hw, Option.bind_some, if_pos (Int32.le_refl _)]
  | succ d ih =>
    intro k b nu mn fu fu' hk hf hf' hb
    obtain ⟨fu, rfl⟩ : ∃ m, fu = m + 1 := ⟨fu - 1, by omega⟩
    obtain ⟨fu', rfl⟩ : ∃ m, fu' = m + 1 := ⟨fu' - 1, by omega⟩
    have nc : ¬ nI (cnt w) ≤ nI k := nI_ge (by omega) (by omega)
    have m5 : (5 : Int32) * nI i + nI k = nI (5 * i + k) := by
      rw [show (5 : Int32) * nI i = nI (5 * i) from nI_mul 5 i, nI_add]
    have hte := te_le (c := c) hb
    rw [f_X6_readItem_L62, cnt_c w hw, Option.bind_some, if_neg nc, if_pos rfl, f_X11_takeItem_L89, cnt_m w hw, Option.bind_some, if_neg nc, if_pos rfl, m5]
    unfold f_X6_readItem_B107
    rcases num_or T hb with ⟨t2, e1, e2, e3, e4⟩ | ⟨t2, t5, v, m, e4⟩
    · have k2 : nI (tk c n b) = (2 : Int32) := by rw [t2] <;> rfl
      rw [k2, tan2 T hte.1 hte.2, Option.bind_some, set_eq (k := k) rfl (show k < 5 by omega) (by decide), Option.bind_some, if_pos rfl, ex_ok T e3, Option.bind_some, nI_1, e4, Option.bind_some, gg (by omega) (by omega), nI_clamp (by omega)]
      rcases ih (k + 1) (te c n b) (upd nu k (nv c (sk c n b) (te c n b - sk c n b))) (upd mn (5 * i + k) (nv c (sk c n b) (te c n b - sk c n b))) fu fu' (by omega) (by omega) (by omega) e3 with ⟨f, a1, a2, a3, nu', q', h1, h2, h3, h4⟩ | ⟨b', nu', mn', h1, h2, h3, h4, h5, h6, h7⟩
      · exact Or.inl ⟨f, a1, a2, a3, nu', q', h1, h2, h3, h4⟩
      · refine Or.inr ⟨b', nu', mn', by omega, h2, h3, h4, fun j hj => ?_, fun j j1 j2 => ?_, fun j hj => ?_⟩
        · rw [h5 j (by omega), upd_n (by omega)]
        · by_cases z : j = k
          · subst z
            rw [h5 j (by omega), upd_s, h7 (5 * i + j) (by omega), upd_s]
          · exact h6 j (by omega) j2
        · rw [h7 j (by omega), upd_n (by omega)]
    · have k2 : ¬ nI (tk c n b) = (2 : Int32) := fun z => t2 ((nI_eq (b := 2) (by omega) (by omega)).mp z)
      have fl : ¬ nI (sk c n b) = -1 := nIm1 (by omega)
      rw [tan0 k2, Option.bind_some, set_eq (k := k) rfl (show k < 5 by omega) (by decide), Option.bind_some, if_neg k2, ex_no, Option.bind_some, e4, Option.bind_some, gg (by omega) (by omega), nI_clamp (by omega)]
      refine Or.inl ⟨sk c n b, _, _, _, _, _, by omega, fl62 fl (cnt_c w hw) (by omega), fl89 fl (cnt_m w hw) (by omega), rfl⟩
/-- told, or let be since one was refused -/
def tellR (a1 a2 a3 : Int32) (nm : Int64) (it rf : Int32) (dr : HallV) (nu : Nat → Int32) (w : Int32) : Option (Int32 × Int32 × Int32 × Int64 × Int32 × Int32 × Int32 × HallV × (Nat → Int32)) :=
  if rf = (-1 : Int32) then Option.bind (f_X6_tellItem nm dr nu w) (fun q => if 0 ≤ q.1 then some (a1, a2, a3, nm, it + 1, (-1 : Int32), rf, q.2, nu) else some (a1, a2, a3, nm, it + 1, (-1 : Int32), it, q.2, nu)) else some (a1, a2, a3, nm, it + 1, (-1 : Int32), rf, dr, nu)
theorem stop_or {n : Nat} {tby mt : Nat → Int32} {c : Nat → Nat} (T : Txt n tby mt c) {w i b : Nat} (hb : b ≤ n) {nm : Int64} {it rf : Int32} {dr : HallV} {nu iw mn : Nat → Int32} {inm : Nat → Int64} :
    (∃ (f : Nat) (a1 a2 a3 : Int32) (q' : (Nat → Int32) × (Nat → Int64) × (Nat → Int32) × Int32 × Int32 × Int32), f ≤ 300 ∧ f_X6_readItem_B116 (nI n) tby (nI (tk c n b)) (nI (sk c n b)) (nI (te c n b)) nm it (-1 : Int32) rf dr nu (nI w) = some (a1, a2, a3, nm, it, nI f, rf, dr, nu) ∧ f_X11_takeItem_B128 mt (nI n) iw inm mn (nI i) (nI b) (-1 : Int32) = some q' ∧ q'.2.2.2.2.2 = nI f) ∨
    (∃ bn : Nat, b + 1 ≤ bn ∧ bn ≤ n ∧ f_X6_readItem_B116 (nI n) tby (nI (tk c n b)) (nI (sk c n b)) (nI (te c n b)) nm it (-1 : Int32) rf dr nu (nI w) = tellR (nI (tk c n bn)) (nI (sk c n bn)) (nI (te c n bn)) nm it rf dr nu (nI w) ∧ f_X11_takeItem_B128 mt (nI n) iw inm mn (nI i) (nI b) (-1 : Int32) = some (iw, inm, mn, nI (i + 1), nI bn, (-1 : Int32))) := by
  have hn := T.1
  have hs := sk_le (c := c) hb
  have hte := te_le (c := c) hb
  have fl : ¬ nI (sk c n b) = -1 := nIm1 (by omega)
  have no : ¬ tk c n b = 3 → tk c n b < 5 → f_X6_readItem_B116 (nI n) tby (nI (tk c n b)) (nI (sk c n b)) (nI (te c n b)) nm it (-1 : Int32) rf dr nu (nI w) = some (nI (tk c n b), nI (sk c n b), nI (te c n b), nm, it, nI (sk c n b), rf, dr, nu) := fun t3 t5 => by
    have k3 : ¬ nI (tk c n b) = (3 : Int32) := fun z => t3 ((nI_eq (b := 3) (by omega) (by omega)).mp z)
    unfold f_X6_readItem_B116 f_X6_readItem_B130
    rw [if_neg k3, ex_no, Option.bind_some]
    exact if_neg fl
  by_cases q : sk c n b = n
  · have t0 : tk c n b = 0 := by unfold tk; rw [if_pos (by omega)]
    have em : f_X11_takeItem_B128 mt (nI n) iw inm mn (nI i) (nI b) (-1 : Int32) = some (iw, inm, mn, nI i + 1, nI (sk c n b) + 1, nI (sk c n b)) := by
      unfold f_X11_takeItem_B128 f_X11_takeItem_B157 f_X11_takeItem_B165
      rw [if_pos rfl, end_eq T hb, if_pos q, Option.bind_some]
      exact if_neg n10
    exact Or.inl ⟨sk c n b, _, _, _, _, by omega, no (by omega) (by omega), em, rfl⟩
  · have hg : sk c n b < n := by omega
    have hx := (T.2 _ hg).2.2
    have em : f_X11_takeItem_B128 mt (nI n) iw inm mn (nI i) (nI b) (-1 : Int32) = if nI (c (sk c n b)) = (59 : Int32) then some (iw, inm, mn, nI (i + 1), nI (sk c n b + 1), (-1 : Int32)) else some (iw, inm, mn, nI (i + 1), nI (sk c n b + 1), nI (sk c n b)) := by
      unfold f_X11_takeItem_B128 f_X11_takeItem_B157 f_X11_takeItem_B165
      rw [if_pos rfl, end_eq T hb, if_neg q]
      simp only [Option.bind_some]
      rw [if_pos trivial, gg (by omega) (by omega), nI_clamp (by omega), (T.2 _ hg).2.1, nI_1, nI_1]
    rw [em]
    by_cases q9 : c (sk c n b) = 59
    · have nl : zL (c (sk c n b)) = false := by rw [q9]; decide
      have nf : zF (c (sk c n b)) = false := by rw [q9]; decide
      have t3 : tk c n b = 3 := by unfold tk; rw [if_neg (by omega), nl, nf, if_neg (by decide), if_neg (by decide), if_pos q9]
      have e3 : te c n b = sk c n b + 1 := by unfold te; rw [if_neg (by omega), nl, nf, if_neg (by decide), if_neg (by decide)]
      refine Or.inr ⟨sk c n b + 1, by omega, by omega, ?_, ?_⟩
      · have k3 : nI (tk c n b) = (3 : Int32) := by rw [t3] <;> rfl
        unfold f_X6_readItem_B116 f_X6_readItem_B130 f_X6_readItem_B165 tellR
        rw [k3, if_pos rfl, e3, ex_ok T (show sk c n b + 1 ≤ n by omega), Option.bind_some]
        rfl
      · rw [if_pos ((c59 hx).mpr q9)]
    · have t3 : ¬ tk c n b = 3 ∧ tk c n b < 5 := by
        unfold tk
        rw [if_neg (by omega)]
        split
        · decide
        · split
          · split <;> decide
          · decide
      rw [if_neg (fun z => q9 ((c59 hx).mp z))]
      exact Or.inl ⟨sk c n b, _, _, _, _, by omega, no t3.1 t3.2, rfl, rfl⟩
