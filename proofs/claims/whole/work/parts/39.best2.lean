/-! PURE 17: best and tell -/
theorem bestM {v : HallV} {w : Nat → Int32} {p T h lim lm : Nat} {any : Bool} (G : Goer v w p T h lim) (hlm : lm ≤ 60) : ∀ d fu x t0 m0 (a : Nat × Nat), d + x = mostT T + 1 → d < fu → a.2 < 2 ^ 63 → ∃ t' m', f_X11_findBest_L52 w fu t0 m0 (lN a.2) (nI p) (nI lm) (bI any) (nI a.1) (nI (mostT T)) (nI x) = some (nI (List.foldl (stB w p h lim T lm any) a (List.range' x d)).1, t', m', lN (List.foldl (stB w p h lim T lm any) a (List.range' x d)).2) := by
  have hm : mostT T ≤ 55555 := by
    unfold mostT
    repeat' split
    all_goals omega
  intro d
  induction d with
  | zero =>
    intro fu x t0 m0 a hd hf _
    obtain ⟨fu, rfl⟩ : ∃ m, fu = m + 1 := ⟨fu - 1, by omega⟩
    rw [f_X11_findBest_L52, if_pos (nI_lt (by omega) (by omega))]
    exact ⟨_, _, rfl⟩
  | succ d ih =>
    intro fu x t0 m0 a hd hf ha
    obtain ⟨fu, rfl⟩ : ∃ m, fu = m + 1 := ⟨fu - 1, by omega⟩
    have e1 := fun t1 m1 (a' : Nat × Nat) ha' => ih fu (x + 1) t1 m1 a' (by omega) (by omega) ha'
    rw [f_X11_findBest_L52, if_neg (nI_nlt (by omega) (by omega)), isRow_val G.1.1 G.1.2.2 x (by omega), Option.bind_some, List.range'_succ, List.foldl_cons]
    unfold f_X11_findBest_B81 f_X11_findBest_B120
    rw [nI_1]
    cases hv : val T x with
    | false =>
      rw [if_pos (by rfl), stB_no hv]
      exact e1 _ _ _ ha
    | true =>
      obtain ⟨hx2, hdg⟩ := val_d hv
      have go := goM_eq (t0 := t0) (m0 := m0) G (x := x) (by omega) hdg
      have ou := out_eq G hv
      obtain ⟨b1, b2, b3⟩ := stp_b (x := x) G 5 (by omega) hdg
      have b3 : (stp w p h lim x 5).2.2.2.2 < 2 ^ 63 := Nat.lt_of_le_of_lt b3 (by decide)
      have hst : stB w p h lim T lm any a x = if (stp w p h lim x 5).1 ≤ lm ∧ (any = true ∨ (stp w p h lim x 5).2.2.2.1 = false) ∧ (stp w p h lim x 5).2.2.2.2 < a.2 then (x, (stp w p h lim x 5).2.2.2.2) else a := by
        unfold stB
        by_cases c : (stp w p h lim x 5).1 ≤ lm ∧ (any = true ∨ (stp w p h lim x 5).2.2.2.1 = false) ∧ (stp w p h lim x 5).2.2.2.2 < a.2
        · rw [if_pos ⟨hv, c⟩, if_pos c]
        · rw [if_neg (fun z => c z.2), if_neg c]
      rw [if_neg (by decide), hst, go, ou, Option.bind_some, Option.bind_some]
      clear go ou hst
      generalize stp w p h lim x 5 = s at b1 b2 b3
      have l1 : nI lm < nI s.1 ↔ lm < s.1 := nI_ltI (by omega) (by omega)
      have l2 : 0 ≤ lg_cmp (lN s.2.2.2.2) (lN a.2) ↔ a.2 ≤ s.2.2.2.2 := by rw [lg_cmp_ge, pk_lLE ha b3]
      simp only [l1, l2]
      have tk : ((any = true ∨ s.2.2.2.1 = false)) → ∃ t' m', (if lm < s.1 then f_X11_findBest_L52 w fu (nI s.1) (lN s.2.2.2.2) (lN a.2) (nI p) (nI lm) (bI any) (nI a.1) (nI (mostT T)) (nI (x + 1)) else if a.2 ≤ s.2.2.2.2 then f_X11_findBest_L52 w fu (nI s.1) (lN s.2.2.2.2) (lN a.2) (nI p) (nI lm) (bI any) (nI a.1) (nI (mostT T)) (nI (x + 1)) else f_X11_findBest_L52 w fu (nI s.1) (lN s.2.2.2.2) (lN s.2.2.2.2) (nI p) (nI lm) (bI any) (nI x) (nI (mostT T)) (nI (x + 1))) = some (nI (List.foldl (stB w p h lim T lm any) (if s.1 ≤ lm ∧ (any = true ∨ s.2.2.2.1 = false) ∧ s.2.2.2.2 < a.2 then (x, s.2.2.2.2) else a) (List.range' (x + 1) d)).1, t', m', lN (List.foldl (stB w p h lim T lm any) (if s.1 ≤ lm ∧ (any = true ∨ s.2.2.2.1 = false) ∧ s.2.2.2.2 < a.2 then (x, s.2.2.2.2) else a) (List.range' (x + 1) d)).2) := by
        intro hao
        by_cases c1 : lm < s.1
        · have hif : ¬ (s.1 ≤ lm ∧ (any = true ∨ s.2.2.2.1 = false) ∧ s.2.2.2.2 < a.2) := fun z => by omega
          rw [if_pos c1, if_neg hif]
          exact e1 _ _ _ ha
        · rw [if_neg c1]
          by_cases c2 : a.2 ≤ s.2.2.2.2
          · have hif : ¬ (s.1 ≤ lm ∧ (any = true ∨ s.2.2.2.1 = false) ∧ s.2.2.2.2 < a.2) := fun z => by omega
            rw [if_pos c2, if_neg hif]
            exact e1 _ _ _ ha
          · have hif : s.1 ≤ lm ∧ (any = true ∨ s.2.2.2.1 = false) ∧ s.2.2.2.2 < a.2 := ⟨by omega, hao, by omega⟩
            rw [if_neg c2, if_pos hif]
            exact e1 _ _ (x, s.2.2.2.2) b3
      cases any with
      | true =>
        rw [if_neg (by decide)]
        exact tk (Or.inl rfl)
      | false =>
        rw [if_pos (by rfl)]
        cases ho : s.2.2.2.1 with
        | false =>
          rw [if_pos (by rfl)]
          have tk := tk (Or.inr ho)
          rw [ho] at tk
          exact tk
        | true =>
          have hif : ¬ (s.1 ≤ lm ∧ (false = true ∨ true = false) ∧ s.2.2.2.2 < a.2) := fun z => by rcases z.2.1 with y | y <;> exact absurd y (by decide)
          rw [if_neg (by decide), if_neg hif]
          exact e1 _ _ _ ha
def rep (T : Nat) : Nat → Nat → Nat | 0, y => y | d + 1, y => rep T d (10 * y + T)
theorem rep_most : ∀ T, T < 6 → rep T T 0 = mostT T := by decide
theorem mostM {w : Nat → Int32} {T : Nat} (hT : T ≤ 5) (h73 : w 73 = nI T) {t0 : Int32} {m0 mb : Int64} {x1 x2 x3 x4 : Int32} : ∀ d fu k y, d + k = T → d < fu → f_X11_findBest_L16 w fu t0 m0 mb x1 x2 x3 x4 (nI y) (nI k) = f_X11_findBest_L52 w FU t0 m0 mb x1 x2 x3 x4 (nI (rep T d y)) (1 : Int32) := by
  intro d
  induction d with
  | zero =>
    intro fu k y hd hf
    obtain ⟨fu, rfl⟩ : ∃ m, fu = m + 1 := ⟨fu - 1, by omega⟩
    have e : k = T := by omega
    subst e
    rw [f_X11_findBest_L16, if_neg k73.1, k73.2.1, h73, if_pos (Int32.le_refl _), rep]
  | succ d ih =>
    intro fu k y hd hf
    obtain ⟨fu, rfl⟩ : ∃ m, fu = m + 1 := ⟨fu - 1, by omega⟩
    rw [f_X11_findBest_L16, if_neg k73.1, k73.2.1, h73, if_neg (nI_ge (a := k) (b := T) (by omega) (by omega)), if_neg k73.2.2, nI_1, show (10 : Int32) * nI y + nI T = nI (10 * y + T) from by rw [show (10 : Int32) = nI 10 from rfl, nI_mul, nI_add], ih fu (k + 1) (10 * y + T) (by omega) (by omega), rep]
theorem dgt0 (j : Nat) : dgt 0 j = 0 := by unfold dgt; rw [Nat.zero_div]
theorem vok0 (T : Nat) : ∀ j, j ≤ 5 → (vok T 0 j).1 = true := by
  intro j
  induction j with
  | zero => intro _; rfl
  | succ j ih => intro hj; rw [vok, if_pos (Nat.pow_pos (by decide))]; exact ih (by omega)
theorem stp0 (w : Nat → Int32) (p h lim : Nat) : ∀ j, (stp w p h lim 0 j).2.2.2.2 = 400 ^ j := by
  intro j
  induction j with
  | zero => rfl
  | succ j ih => rw [stp, if_pos (dgt0 j), Nat.pow_succ, ← ih]
def okB (w : Nat → Int32) (p h lim T : Nat) (a : Nat × Nat) : Prop := val T a.1 = true ∧ a.2 = (stp w p h lim a.1 5).2.2.2.2
theorem okB_s {w : Nat → Int32} {p h lim T lm : Nat} {any : Bool} {a : Nat × Nat} (ha : okB w p h lim T a) (x : Nat) : okB w p h lim T (stB w p h lim T lm any a x) := by
  unfold stB
  by_cases c : val T x = true ∧ (stp w p h lim x 5).1 ≤ lm ∧ (any = true ∨ (stp w p h lim x 5).2.2.2.1 = false) ∧ (stp w p h lim x 5).2.2.2.2 < a.2
  · rw [if_pos c]; exact ⟨c.1, rfl⟩
  · rw [if_neg c]; exact ha
theorem okB_f {w : Nat → Int32} {p h lim T lm : Nat} {any : Bool} : ∀ (l : List Nat) (a : Nat × Nat), okB w p h lim T a → okB w p h lim T (List.foldl (stB w p h lim T lm any) a l) := by
  intro l
  induction l with
  | nil => intro a h; exact h
  | cons x l ih => intro a h; exact ih _ (okB_s h x)
theorem bests {v : HallV} {w : Nat → Int32} {p T h lim lm : Nat} {any : Bool} {rall : Nat → Int32} {a1 a2 a3 a4 a5 : Int32} {a6 : Int64} {t0 : Int32} {m0 mb0 : Int64} (G : Goer v w p T h lim) (hr : ∀ j, j < 326 → rall j = nI (allL.getD j 0)) (hlm : lm ≤ 60) : ∃ b mb junk t' m', f_X7_bestOf v rall a1 a2 a3 a4 a5 a6 (nI p) (nI lm) (bI any) = some (nI b, junk) ∧ f_X11_findBest w t0 m0 mb0 (nI p) (nI lm) (bI any) = some (nI b, t', m', lN mb) ∧ val T b = true ∧ mb = (stp w p h lim b 5).2.2.2.2 := by
  have hT := G.1.1
  have hm : mostT T ≤ 55555 := by
    unfold mostT
    repeat' split
    all_goals omega
  have h0 : okB w p h lim T (0, 10240000000000) := by
    refine ⟨?_, ?_⟩
    · unfold val
      rw [vok0 T 5 (by omega)]; rfl
    · show 10240000000000 = (stp w p h lim 0 5).2.2.2.2
      rw [stp0, k400]
  have same : List.foldl (stB w p h lim T lm any) (0, 10240000000000) allL = List.foldl (stB w p h lim T lm any) (0, 10240000000000) (List.range' 1 (mostT T)) := by
    rw [best_fold hT, allL_0, List.foldl_cons]
    have e : stB w p h lim T lm any (0, 10240000000000) 0 = (0, 10240000000000) := by
      unfold stB
      rw [stp0, k400, if_neg (fun z => absurd z.2.2.2 (Nat.lt_irrefl _))]
    rw [e]; rfl
  obtain ⟨junk, c⟩ := bestC (any := any) G hr hlm 326 FU 0 a1 a2 a3 a4 a5 a6 (0, 10240000000000) (by omega) (FU1 (by omega)) (by show 10240000000000 < 2 ^ 63; decide)
  obtain ⟨t', m', mm⟩ := bestM (any := any) G hlm (mostT T) FU 1 t0 m0 (0, 10240000000000) (by omega) (by unfold FU; omega) (by show 10240000000000 < 2 ^ 63; decide)
  rw [List.drop_zero, same] at c
  have ok := okB_f (lm := lm) (any := any) (List.range' 1 (mostT T)) _ h0
  generalize List.foldl (stB w p h lim T lm any) (0, 10240000000000) (List.range' 1 (mostT T)) = r at c mm ok
  have M := mostM (w := w) hT G.1.2.2 (t0 := t0) (m0 := m0) (mb := lN 10240000000000) (x1 := nI p) (x2 := nI lm) (x3 := bI any) (x4 := nI 0) T FU 0 0 (by omega) (FU1 (by omega))
  rw [rep_most T (by omega)] at M
  refine ⟨r.1, r.2, junk, t', m', ?_, ?_, ok.1, ok.2⟩
  · unfold f_X7_bestOf
    rw [c400]; exact c
  · unfold f_X11_findBest
    rw [c400]; exact M.trans mm
theorem bestTC {fab fbe : Int64} {bads noes fulls : Int32} {now : HallV} {rall : Nat → Int32} {r1 r2 r3 r4 r5 : Int32} {r6 : Int64} {x1 x2 b h s2 s3 s4 s5 : Int32} {m f1 f2 : Int64} {junk : Int32 × Int32 × Int32 × Int32 × Int32 × Int64} (o1 : f_X8_holds (now.1 0) x1 = some 1) (w1 : f_X10_within x2 (0 : Int32) (60 : Int32) = some 1) (bs : f_X7_bestOf now rall r1 r2 r3 r4 r5 r6 x1 x2 (1 : Int32) = some (b, junk)) (k1 : f_X7_go now junk.1 junk.2.1 junk.2.2.1 junk.2.2.2.1 junk.2.2.2.2.1 junk.2.2.2.2.2 x1 b = some (1, h, s2, s3, s4, s5, m)) (q1 : f_X10_setFraction fab fbe ((10240000000000 : Int64) - m) (10240000000000 : Int64) = some (f1, f2)) : f_X10_best fab fbe bads noes fulls now rall r1 r2 r3 r4 r5 r6 x1 x2 = some (b, f1, f2, bads, noes, fulls, h, s2, s3, s4, s5, m) := by
  have n1 : ¬ (1 : Int32) = 0 := by decide
  unfold f_X10_best f_X7_brings
  rw [o1, Option.bind_some, if_neg n1, w1, Option.bind_some, if_neg n1, bs, Option.bind_some]
  show Option.bind (f_X7_go now junk.1 junk.2.1 junk.2.2.1 junk.2.2.2.1 junk.2.2.2.2.1 junk.2.2.2.2.2 x1 b) _ = _
  rw [k1, Option.bind_some, Option.bind_some]
  show Option.bind (f_X10_setFraction fab fbe ((10240000000000 : Int64) - m) (10240000000000 : Int64)) _ = _
  rw [q1, Option.bind_some]
theorem bestTM {mw : Nat → Int32} {mabove mbelow : Int64} {mr : Nat → Int32} {t0 t : Int32} {m0 m b0 mb : Int64} {x1 x2 b : Int32} {f1 f2 : Int64} (o2 : f_X11_isOne mw x1 = some 1) (y1 : f_X11_in x2.toInt64 (0 : Int64) (60 : Int64) = some 1) (k3 : f_X11_findBest mw t0 m0 b0 x1 x2 (1 : Int32) = some (b, t, m, mb)) (q2 : f_X11_share mabove mbelow ((10240000000000 : Int64) - mb) (10240000000000 : Int64) = some ((1 : Int32), f1, f2)) : f_X11_best mw mabove mbelow mr t0 m0 b0 x1 x2 = some (b, f1, f2, mr, t, m, mb) := by
  have n1 : ¬ (1 : Int32) = 0 := by decide
  unfold f_X11_best
  rw [o2, Option.bind_some, if_neg n1, y1, Option.bind_some, if_neg n1, k3, Option.bind_some]
  show Option.bind (f_X11_share mabove mbelow ((10240000000000 : Int64) - mb) (10240000000000 : Int64)) _ = _
  rw [q2, Option.bind_some]
theorem r_best {keptImages : Int32} {fab : Int64} {fbe : Int64} {bads : Int32} {noes : Int32} {fulls : Int32} {now : HallV} {bl : Int32} {kp : Int32} {ring : Nat → HallV} {imgs : Nat → HallV} {tlen : Int32} {tby : Nat → Int32} {draft : HallV} {rall : Nat → Int32} {rheld : Int32} {rsecs : Int32} {rhelp : Int32} {rna : Int32} {rout : Int32} {rmiss : Int64} {nmost : Nat → Int32} {mw : Nat → Int32} {mnames : Nat → Int64} {mkept : Nat → Int32} {mtext : Nat → Int32} {mtexted : Int32} {mundo : Int32} {mabove : Int64} {mbelow : Int64} {mrefused : Nat → Int32} {mtakes : Int32} {mmisses : Int64} {mbest : Int64} (hR : Rel now bl kp ring imgs tlen tby draft rall nmost keptImages fab fbe bads noes fulls mw mnames mkept mtext mtexted mundo mabove mbelow mrefused) (x1 : Int32) (x2 : Int32) : ∃ (q : Int32 × Int64 × Int64 × Int32 × Int32 × Int32 × Int32 × Int32 × Int32 × Int32 × Int32 × Int64) (q' : Int32 × Int64 × Int64 × (Nat → Int32) × Int32 × Int64 × Int64), f_X10_best fab fbe bads noes fulls now rall rheld rsecs rhelp rna rout rmiss x1 x2 = some q ∧ f_X11_best mw mabove mbelow mrefused mtakes mmisses mbest x1 x2 = some q' ∧ q.1 = q'.1 ∧ Rel now bl kp ring imgs tlen tby draft rall nmost keptImages q.2.1 q.2.2.1 q.2.2.2.1 q.2.2.2.2.1 q.2.2.2.2.2.1 mw mnames mkept mtext mtexted mundo q'.2.1 q'.2.2.1 q'.2.2.2.1 := by
  obtain ⟨M, W, P, hW, e1, e2⟩ := hR.1.ppl
  obtain ⟨o1, o2⟩ := isone P.m12 P.a1 P.a2 x1
  obtain ⟨b, n, f, m, c1, c2, c3⟩ := ct hR.2.2.2.2.2.2.2.2 (-2)
  by_cases g : 0 ≤ x1 ∧ x1 < nI M
  · by_cases g2 : 0 ≤ x2 ∧ x2 ≤ 60
    · obtain ⟨p, rfl, hpM⟩ := ltM (by have := P.m12; omega) g
      obtain ⟨lm, rfl, _, hlm⟩ := (inN_iff (x := x2) (a := 0) (b := 60) (by decide) (by decide)).mpr g2
      obtain ⟨T, h, lim, G⟩ := hR.1.goer P.a1 P.m12 hpM
      obtain ⟨r, mb, junk, t', m', s1, s2, s3, s4⟩ := bests (any := true) (a1 := rheld) (a2 := rsecs) (a3 := rhelp) (a4 := rna) (a5 := rout) (a6 := rmiss) (t0 := mtakes) (m0 := mmisses) (mb0 := mbest) G hR.2.2.2.2.2.1 hlm
      obtain ⟨hx2, hdg⟩ := val_d s3
      have k1 := (goC_eq (a1 := junk.1) (a2 := junk.2.1) (a3 := junk.2.2.1) (a4 := junk.2.2.2.1) (a5 := junk.2.2.2.2.1) (a6 := junk.2.2.2.2.2) G (nI r)).1 r rfl (by omega) s3
      obtain ⟨f1, f2, q1, q2⟩ := share_row G hdg fab fbe mabove mbelow
      rw [← s4] at k1 q1 q2
      have o1 : f_X8_holds (now.1 0) (nI p) = some 1 := by rw [o1, if_pos g]
      have o2 : f_X11_isOne mw (nI p) = some 1 := by rw [o2, if_pos g]
      have w1 : f_X10_within (nI lm) (0 : Int32) (60 : Int32) = some 1 := by rw [within_eq, if_pos g2]
      have y1 : f_X11_in (nI lm).toInt64 (0 : Int64) (60 : Int64) = some 1 := by rw [in32 (la := 0) (lb := 60) 0 60 (by decide) (by decide), if_pos g2]
      have A := bestTC (bads := bads) (noes := noes) (fulls := fulls) o1 w1 s1 k1 q1
      have B := bestTM (mr := mrefused) o2 y1 s2 q2
      exact ⟨_, _, A, B, rfl, ⟨hR.1, hR.2.1, hR.2.2.1, hR.2.2.2.1, hR.2.2.2.2.1, hR.2.2.2.2.2.1, hR.2.2.2.2.2.2.1, ⟨rfl, rfl⟩, hR.2.2.2.2.2.2.2.2⟩⟩
    · refine ⟨(-2, fab, fbe, b, n, f, rheld, rsecs, rhelp, rna, rout, rmiss), (-2, mabove, mbelow, m, mtakes, mmisses, mbest), ?_, ?_, rfl, hR.now hR.1 (fun _ _ => rfl) (fun _ _ => rfl) c3⟩
      · unfold f_X10_best f_X10_best_B24
        simp only [o1, g, within_eq, g2, c1, one0, i01, Option.bind_some, not_true, if_false, not_false_eq_true, if_true, and_self]
      · unfold f_X11_best f_X11_best_B20
        simp only [o2, g, in32 (la := 0) (lb := 60) 0 60 (by decide) (by decide), g2, c2, one0, i01, Option.bind_some, not_true, if_false, not_false_eq_true, if_true, and_self]
  · refine ⟨(-2, fab, fbe, b, n, f, rheld, rsecs, rhelp, rna, rout, rmiss), (-2, mabove, mbelow, m, mtakes, mmisses, mbest), ?_, ?_, rfl, hR.now hR.1 (fun _ _ => rfl) (fun _ _ => rfl) c3⟩
    · unfold f_X10_best f_X10_best_B24
      simp only [o1, g, c1, one0, i01, Option.bind_some, not_true, if_false, not_false_eq_true, if_true, and_self]
    · unfold f_X11_best f_X11_best_B20
      simp only [o2, g, c2, one0, i01, Option.bind_some, not_true, if_false, not_false_eq_true, if_true, and_self]
