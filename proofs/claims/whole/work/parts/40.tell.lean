/-! PURE 18: tell -/
theorem shame_eq {v : HallV} {w : Nat → Int32} {nm : Nat → Int64} {M p : Nat} (hr : HRel v w nm 0 0) (hM : v.1 0 = nI M) (hM12 : M ≤ 12) (hpM : p < M) : ∃ s : Int32, f_X1_shame v (nI p) = some s ∧ f_X11_lesser (20 : Int32) ((w 115 - w (61 + p)) / (50 : Int32)) = some s := by
  obtain ⟨M', T, K, ⟨hM', hT, hK⟩, ⟨a1, a2⟩, ⟨b1, b2⟩, ⟨c1, c2⟩, hrows, hp, ht, hq, hs, hk, hd, hd2⟩ := id hr
  have e : M' = M := (nI_eq (by omega) (by omega)).mp (a1.symm.trans hM)
  subst e
  have hc := hp p hpM
  unfold PRel at hc
  simp only [Nat.zero_add] at hc hd hd2
  obtain ⟨-, -, -, -, -, -, -, l6, ⟨la, el, -, hla⟩, hle⟩ := hc
  obtain ⟨d, ed, -, hdb⟩ := hd2
  rw [el, ed] at hle
  have hle := (nI_leI (by omega) (by omega)).mp hle
  have e1 : (w 115 - w (61 + p)) / (50 : Int32) = nI ((d - la) / 50) := by
    rw [el, ed, nI_sub hle]
    exact nI_div (b := 50) (by omega) (by decide)
  have e2 : v.2.2 - w (61 + p) = w 115 - w (61 + p) := by rw [hd]
  refine ⟨nI (mn20 ((d - la) / 50)), ?_, ?_⟩
  · unfold f_X1_shame
    rw [num_col (v := v) (p := p) (c := 6) (y := 6) (by omega) rfl (by omega), l6, i64_i32, Option.bind_some, e2, e1, (mn20_c _ (by omega)).1]
  · rw [e1, (mn20_c _ (by omega)).2]
theorem tellTC {bads noes fulls : Int32} {now : HallV} {rall : Nat → Int32} {r1 r2 r3 r4 r5 : Int32} {r6 : Int64} {x1 x2 b h s2 s3 s4 s5 sh : Int32} {m : Int64} {junk : Int32 × Int32 × Int32 × Int32 × Int32 × Int64} (o1 : f_X8_holds (now.1 0) x1 = some 1) (w1 : f_X10_within x2 (0 : Int32) (60 : Int32) = some 1) (bs : f_X7_bestOf now rall r1 r2 r3 r4 r5 r6 x1 x2 (0 : Int32) = some (b, junk)) (k1 : f_X7_go now junk.1 junk.2.1 junk.2.2.1 junk.2.2.2.1 junk.2.2.2.2.1 junk.2.2.2.2.2 x1 b = some (1, h, s2, s3, s4, s5, m)) (q1 : f_X1_shame now x1 = some sh) : f_X10_tell bads noes fulls now rall r1 r2 r3 r4 r5 r6 x1 x2 = (if 0 ≤ lg_cmp (((10240000000000 : Int64) - m) * (20 : Int64)) ((((20 : Int32) - sh).toInt64) * (10240000000000 : Int64)) then some ((0 : Int32), bads, noes, fulls, h, s2, s3, s4, s5, m) else some ((1 : Int32), bads, noes, fulls, h, s2, s3, s4, s5, m)) := by
  have n1 : ¬ (1 : Int32) = 0 := by decide
  unfold f_X10_tell f_X7_brings
  rw [o1, Option.bind_some, if_neg n1, w1, Option.bind_some, if_neg n1, bs, Option.bind_some]
  show Option.bind (f_X7_go now junk.1 junk.2.1 junk.2.2.1 junk.2.2.2.1 junk.2.2.2.2.1 junk.2.2.2.2.2 x1 b) _ = _
  rw [k1, Option.bind_some, Option.bind_some, q1, Option.bind_some]
theorem tellTM {mw : Nat → Int32} {mr : Nat → Int32} {t0 t : Int32} {m0 m b0 mb : Int64} {x2 b sh : Int32} {p : Nat} (hp : p < 12) (o2 : f_X11_isOne mw (nI p) = some 1) (y1 : f_X11_in x2.toInt64 (0 : Int64) (60 : Int64) = some 1) (k3 : f_X11_findBest mw t0 m0 b0 (nI p) x2 (0 : Int32) = some (b, t, m, mb)) (q2 : f_X11_lesser (20 : Int32) ((mw 115 - mw (61 + p)) / (50 : Int32)) = some sh) : f_X11_tell mw mr t0 m0 b0 (nI p) x2 = (if 0 ≤ lg_cmp ((20 : Int64) * ((10240000000000 : Int64) - mb)) ((((20 : Int32) - sh).toInt64) * (10240000000000 : Int64)) then some ((0 : Int32), mr, t, m, mb) else some ((1 : Int32), mr, t, m, mb)) := by
  have n1 : ¬ (1 : Int32) = 0 := by decide
  have m1 : (61 : Int32) + nI p = nI (61 + p) := nI_add 61 p
  unfold f_X11_tell
  rw [o2, Option.bind_some, if_neg n1, y1, Option.bind_some, if_neg n1, k3, Option.bind_some, if_neg b115, m1, gg (by omega) (by omega), nI_clamp (by omega), c115, q2, Option.bind_some]
theorem r_tell {keptImages : Int32} {fab : Int64} {fbe : Int64} {bads : Int32} {noes : Int32} {fulls : Int32} {now : HallV} {bl : Int32} {kp : Int32} {ring : Nat → HallV} {imgs : Nat → HallV} {tlen : Int32} {tby : Nat → Int32} {draft : HallV} {rall : Nat → Int32} {rheld : Int32} {rsecs : Int32} {rhelp : Int32} {rna : Int32} {rout : Int32} {rmiss : Int64} {nmost : Nat → Int32} {mw : Nat → Int32} {mnames : Nat → Int64} {mkept : Nat → Int32} {mtext : Nat → Int32} {mtexted : Int32} {mundo : Int32} {mabove : Int64} {mbelow : Int64} {mrefused : Nat → Int32} {mtakes : Int32} {mmisses : Int64} {mbest : Int64} (hR : Rel now bl kp ring imgs tlen tby draft rall nmost keptImages fab fbe bads noes fulls mw mnames mkept mtext mtexted mundo mabove mbelow mrefused) (x1 : Int32) (x2 : Int32) : ∃ (q : Int32 × Int32 × Int32 × Int32 × Int32 × Int32 × Int32 × Int32 × Int32 × Int64) (q' : Int32 × (Nat → Int32) × Int32 × Int64 × Int64), f_X10_tell bads noes fulls now rall rheld rsecs rhelp rna rout rmiss x1 x2 = some q ∧ f_X11_tell mw mrefused mtakes mmisses mbest x1 x2 = some q' ∧ q.1 = q'.1 ∧ Rel now bl kp ring imgs tlen tby draft rall nmost keptImages fab fbe q.2.1 q.2.2.1 q.2.2.2.1 mw mnames mkept mtext mtexted mundo mabove mbelow q'.2.1 := by
  obtain ⟨M, W, P, hW, e1, e2⟩ := hR.1.ppl
  obtain ⟨o1, o2⟩ := isone P.m12 P.a1 P.a2 x1
  obtain ⟨b, n, f, m, c1, c2, c3⟩ := ct hR.2.2.2.2.2.2.2.2 (-2)
  by_cases g : 0 ≤ x1 ∧ x1 < nI M
  · by_cases g2 : 0 ≤ x2 ∧ x2 ≤ 60
    · obtain ⟨p, rfl, hpM⟩ := ltM (by have := P.m12; omega) g
      obtain ⟨lm, rfl, _, hlm⟩ := (inN_iff (x := x2) (a := 0) (b := 60) (by decide) (by decide)).mpr g2
      obtain ⟨T, h, lim, G⟩ := hR.1.goer P.a1 P.m12 hpM
      obtain ⟨r, mb, junk, t', m', s1, s2, s3, s4⟩ := bests (any := false) (a1 := rheld) (a2 := rsecs) (a3 := rhelp) (a4 := rna) (a5 := rout) (a6 := rmiss) (t0 := mtakes) (m0 := mmisses) (mb0 := mbest) G hR.2.2.2.2.2.1 hlm
      obtain ⟨hx2, hdg⟩ := val_d s3
      have k1 := (goC_eq (a1 := junk.1) (a2 := junk.2.1) (a3 := junk.2.2.1) (a4 := junk.2.2.2.1) (a5 := junk.2.2.2.2.1) (a6 := junk.2.2.2.2.2) G (nI r)).1 r rfl (by omega) s3
      obtain ⟨sh, q1, q2⟩ := shame_eq hR.1 P.a1 P.m12 hpM
      rw [← s4] at k1
      have o1 : f_X8_holds (now.1 0) (nI p) = some 1 := by rw [o1, if_pos g]
      have o2 : f_X11_isOne mw (nI p) = some 1 := by rw [o2, if_pos g]
      have w1 : f_X10_within (nI lm) (0 : Int32) (60 : Int32) = some 1 := by rw [within_eq, if_pos g2]
      have y1 : f_X11_in (nI lm).toInt64 (0 : Int64) (60 : Int64) = some 1 := by rw [in32 (la := 0) (lb := 60) 0 60 (by decide) (by decide), if_pos g2]
      have A := tellTC (bads := bads) (noes := noes) (fulls := fulls) o1 w1 s1 k1 q1
      have B := tellTM (mr := mrefused) (by have := P.m12; omega) o2 y1 s2 q2
      rw [Int64.mul_comm (20 : Int64)] at B
      by_cases c : 0 ≤ lg_cmp (((10240000000000 : Int64) - lN mb) * (20 : Int64)) ((((20 : Int32) - sh).toInt64) * (10240000000000 : Int64))
      · rw [if_pos c] at A B
        exact ⟨_, _, A, B, rfl, hR⟩
      · rw [if_neg c] at A B
        exact ⟨_, _, A, B, rfl, hR⟩
    · refine ⟨(-2, b, n, f, rheld, rsecs, rhelp, rna, rout, rmiss), (-2, m, mtakes, mmisses, mbest), ?_, ?_, rfl, hR.now hR.1 (fun _ _ => rfl) (fun _ _ => rfl) c3⟩
      · unfold f_X10_tell f_X10_tell_B24
        rw [o1, Option.bind_some, if_pos g, if_neg (show ¬ (1 : Int32) = 0 from by decide), within_eq, Option.bind_some, if_neg g2, if_pos rfl, c1, Option.bind_some]
      · unfold f_X11_tell f_X11_tell_B20
        rw [o2, Option.bind_some, if_pos g, if_neg (show ¬ (1 : Int32) = 0 from by decide), in32 (la := 0) (lb := 60) 0 60 (by decide) (by decide), Option.bind_some, if_neg g2, if_pos rfl, c2, Option.bind_some]
  · refine ⟨(-2, b, n, f, rheld, rsecs, rhelp, rna, rout, rmiss), (-2, m, mtakes, mmisses, mbest), ?_, ?_, rfl, hR.now hR.1 (fun _ _ => rfl) (fun _ _ => rfl) c3⟩
    · unfold f_X10_tell f_X10_tell_B24
      rw [o1, Option.bind_some, if_neg g, if_pos rfl, c1, Option.bind_some]
    · unfold f_X11_tell f_X11_tell_B20
      rw [o2, Option.bind_some, if_neg g, if_pos rfl, c2, Option.bind_some]
