theorem one0 : ((1 : Int32) = 0) = False := eq_false (by decide)
theorem r_held {keptImages : Int32} {fab : Int64} {fbe : Int64} {bads : Int32} {noes : Int32} {fulls : Int32} {now : HallV} {bl : Int32} {kp : Int32} {ring : Nat → HallV} {imgs : Nat → HallV} {tlen : Int32} {tby : Nat → Int32} {draft : HallV} {rall : Nat → Int32} {nmost : Nat → Int32} {mw : Nat → Int32} {mnames : Nat → Int64} {mkept : Nat → Int32} {mtext : Nat → Int32} {mtexted : Int32} {mundo : Int32} {mabove : Int64} {mbelow : Int64} {mrefused : Nat → Int32} (hR : Rel now bl kp ring imgs tlen tby draft rall nmost keptImages fab fbe bads noes fulls mw mnames mkept mtext mtexted mundo mabove mbelow mrefused) (x1 : Int32) (x2 : Int32) : ∃ (q : Int32 × Int32 × Int32 × Int32) (q' : Int32 × (Nat → Int32)), f_X10_held bads noes fulls now x1 x2 = some q ∧ f_X11_held mw mrefused x1 x2 = some q' ∧ q.1 = q'.1 ∧ Rel now bl kp ring imgs tlen tby draft rall nmost keptImages fab fbe q.2.1 q.2.2.1 q.2.2.2 mw mnames mkept mtext mtexted mundo mabove mbelow q'.2 := by
  obtain ⟨M, T, K, ⟨hM, hT, hK⟩, ⟨a1, a2⟩, ⟨b1, b2⟩, ⟨c1, c2⟩, hrows, hp, ht, hq, hs, hk, hd, hd2⟩ := id hR.1
  obtain ⟨o1, o2⟩ := isone hM a1 a2 x1
  obtain ⟨b, n, f, m, c1, c2, c3⟩ := ct hR.2.2.2.2.2.2.2.2 (-2)
  by_cases g : 0 ≤ x1 ∧ x1 < nI M
  · by_cases g2 : 0 ≤ x2 ∧ x2 ≤ 999
    · obtain ⟨p, rfl, hpM⟩ := ltM (by omega) g
      obtain ⟨k, rfl, _, hk9⟩ := (inN_iff (x := x2) (a := 0) (b := 999) (by decide) (by decide)).mpr g2
      obtain ⟨r, hr, e1, e2⟩ := held_eq hM hpM (hp p hpM) hs hd hd2 hk9
      refine ⟨(nI r, bads, noes, fulls), (nI r, mrefused), ?_, ?_, rfl, hR⟩
      · unfold f_X10_held
        simp only [o1, g, within_eq, g2, e1, one0, i01, Option.bind_some, not_true, if_false, not_false_eq_true, if_true, and_self]
      · unfold f_X11_held
        have q5 : ¬ ((115 : Int32) < 0 ∨ 960 ≤ (115 : Int32).toNatClampNeg) := by decide
        have e2 : f_X11_heldOn mw (nI p) (mw (115 : Int32).toNatClampNeg + nI k) = some (nI r) := e2
        simp only [o2, g, in32 (la := 0) (lb := 999) 0 999 (by decide) (by decide), g2, e2, q5, one0, i01, Option.bind_some, not_true, if_false, not_false_eq_true, if_true, and_self]
    · refine ⟨(-2, b, n, f), (-2, m), ?_, ?_, rfl, hR.now hR.1 (fun _ _ => rfl) (fun _ _ => rfl) c3⟩
      · unfold f_X10_held f_X10_held_B25
        simp only [o1, g, within_eq, g2, c1, one0, i01, Option.bind_some, not_true, if_false, not_false_eq_true, if_true, and_self]
      · unfold f_X11_held f_X11_held_B37
        simp only [o2, g, in32 (la := 0) (lb := 999) 0 999 (by decide) (by decide), g2, c2, one0, i01, Option.bind_some, not_true, if_false, not_false_eq_true, if_true, and_self]
  · refine ⟨(-2, b, n, f), (-2, m), ?_, ?_, rfl, hR.now hR.1 (fun _ _ => rfl) (fun _ _ => rfl) c3⟩
    · unfold f_X10_held f_X10_held_B25
      simp only [o1, g, c1, one0, i01, Option.bind_some, not_true, if_false, not_false_eq_true, if_true, and_self]
    · unfold f_X11_held f_X11_held_B37
      simp only [o2, g, c2, one0, i01, Option.bind_some, not_true, if_false, not_false_eq_true, if_true, and_self]
theorem r_rests {keptImages : Int32} {fab : Int64} {fbe : Int64} {bads : Int32} {noes : Int32} {fulls : Int32} {now : HallV} {bl : Int32} {kp : Int32} {ring : Nat → HallV} {imgs : Nat → HallV} {tlen : Int32} {tby : Nat → Int32} {draft : HallV} {rall : Nat → Int32} {nmost : Nat → Int32} {mw : Nat → Int32} {mnames : Nat → Int64} {mkept : Nat → Int32} {mtext : Nat → Int32} {mtexted : Int32} {mundo : Int32} {mabove : Int64} {mbelow : Int64} {mrefused : Nat → Int32} (hR : Rel now bl kp ring imgs tlen tby draft rall nmost keptImages fab fbe bads noes fulls mw mnames mkept mtext mtexted mundo mabove mbelow mrefused) (x1 : Int32) (x2 : Int32) : ∃ (q : Int32 × Int32 × Int32 × Int32) (q' : Int32 × (Nat → Int32)), f_X10_rests bads noes fulls x1 x2 = some q ∧ f_X11_rests mrefused x1 x2 = some q' ∧ q.1 = q'.1 ∧ Rel now bl kp ring imgs tlen tby draft rall nmost keptImages fab fbe q.2.1 q.2.2.1 q.2.2.2 mw mnames mkept mtext mtexted mundo mabove mbelow q'.2 := by
  obtain ⟨b, n, f, m, c1, c2, c3⟩ := ct hR.2.2.2.2.2.2.2.2 (-2)
  by_cases g1 : 0 ≤ x1 ∧ x1 ≤ 20
  · by_cases g2 : 0 ≤ x2 ∧ x2 ≤ 20
    · refine ⟨(gM x1 x2, bads, noes, fulls), (gM x1 x2, mrefused), ?_, restsM _ g1 g2, rfl, hR⟩
      obtain ⟨i, rfl, _, hi⟩ := (inN_iff (x := x1) (a := 0) (b := 20) (by decide) (by decide)).mpr g1
      obtain ⟨j, rfl, _, hj⟩ := (inN_iff (x := x2) (a := 0) (b := 20) (by decide) (by decide)).mpr g2
      unfold f_X10_rests
      simp only [within_eq, g1, g2, restsC i (by omega) j (by omega), one0, i01, Option.bind_some, not_true, if_false, not_false_eq_true, if_true, and_self]
    · refine ⟨(-2, b, n, f), (-2, m), ?_, ?_, rfl, hR.now hR.1 (fun _ _ => rfl) (fun _ _ => rfl) c3⟩
      · unfold f_X10_rests f_X10_rests_B20
        simp only [within_eq, g1, g2, c1, one0, i01, Option.bind_some, not_true, if_false, not_false_eq_true, if_true, and_self]
      · unfold f_X11_rests f_X11_rests_B24
        simp only [in32 (la := 0) (lb := 20) 0 20 (by decide) (by decide), g1, g2, c2, one0, i01, Option.bind_some, not_true, if_false, not_false_eq_true, if_true, and_self]
  · refine ⟨(-2, b, n, f), (-2, m), ?_, ?_, rfl, hR.now hR.1 (fun _ _ => rfl) (fun _ _ => rfl) c3⟩
    · unfold f_X10_rests f_X10_rests_B20
      simp only [within_eq, g1, c1, one0, i01, Option.bind_some, not_true, if_false, not_false_eq_true, if_true, and_self]
    · unfold f_X11_rests f_X11_rests_B24
      simp only [in32 (la := 0) (lb := 20) 0 20 (by decide) (by decide), g1, c2, one0, i01, Option.bind_some, not_true, if_false, not_false_eq_true, if_true, and_self]
theorem r_part {keptImages : Int32} {fab : Int64} {fbe : Int64} {bads : Int32} {noes : Int32} {fulls : Int32} {now : HallV} {bl : Int32} {kp : Int32} {ring : Nat → HallV} {imgs : Nat → HallV} {tlen : Int32} {tby : Nat → Int32} {draft : HallV} {rall : Nat → Int32} {nmost : Nat → Int32} {mw : Nat → Int32} {mnames : Nat → Int64} {mkept : Nat → Int32} {mtext : Nat → Int32} {mtexted : Int32} {mundo : Int32} {mabove : Int64} {mbelow : Int64} {mrefused : Nat → Int32} (hR : Rel now bl kp ring imgs tlen tby draft rall nmost keptImages fab fbe bads noes fulls mw mnames mkept mtext mtexted mundo mabove mbelow mrefused) (x1 : Int32) : ∃ (q : Int64 × Int32 × Int32 × Int32) (q' : Int64 × (Nat → Int32)), f_X10_part fab fbe bads noes fulls x1 = some q ∧ f_X11_part mabove mbelow mrefused x1 = some q' ∧ q.1 = q'.1 ∧ Rel now bl kp ring imgs tlen tby draft rall nmost keptImages fab fbe q.2.1 q.2.2.1 q.2.2.2 mw mnames mkept mtext mtexted mundo mabove mbelow q'.2 := by
  obtain ⟨b, n, f, m, c1, c2, c3⟩ := ct hR.2.2.2.2.2.2.2.2 (-2)
  by_cases g0 : x1 = 0
  · subst g0
    refine ⟨(fab, bads, noes, fulls), (mabove, mrefused), rfl, rfl, hR.2.2.2.2.2.2.2.1.1, hR⟩
  · by_cases g1 : x1 = 1
    · subst g1
      refine ⟨(fbe, bads, noes, fulls), (mbelow, mrefused), rfl, rfl, hR.2.2.2.2.2.2.2.1.2, hR⟩
    · refine ⟨((-2 : Int32).toInt64, b, n, f), ((-2 : Int32).toInt64, m), ?_, ?_, rfl, hR.now hR.1 (fun _ _ => rfl) (fun _ _ => rfl) c3⟩
      · have g : ¬ (0 ≤ x1 ∧ x1 ≤ 1) := by
          intro z
          obtain ⟨k, rfl, _, hk⟩ := (inN_iff (x := x1) (a := 0) (b := 1) (by decide) (by decide)).mpr z
          match k, hk with
          | 0, _ => exact g0 rfl
          | 1, _ => exact g1 rfl
        unfold f_X10_part
        simp only [within_eq, g, c1, one0, i01, Option.bind_some, not_true, if_false, not_false_eq_true, if_true, and_self]
      · unfold f_X11_part
        simp only [g0, g1, c2, one0, i01, Option.bind_some, not_true, if_false, not_false_eq_true, if_true, and_self]
theorem r_status {keptImages : Int32} {fab : Int64} {fbe : Int64} {bads : Int32} {noes : Int32} {fulls : Int32} {now : HallV} {bl : Int32} {kp : Int32} {ring : Nat → HallV} {imgs : Nat → HallV} {tlen : Int32} {tby : Nat → Int32} {draft : HallV} {rall : Nat → Int32} {nmost : Nat → Int32} {mw : Nat → Int32} {mnames : Nat → Int64} {mkept : Nat → Int32} {mtext : Nat → Int32} {mtexted : Int32} {mundo : Int32} {mabove : Int64} {mbelow : Int64} {mrefused : Nat → Int32} (hR : Rel now bl kp ring imgs tlen tby draft rall nmost keptImages fab fbe bads noes fulls mw mnames mkept mtext mtexted mundo mabove mbelow mrefused) (x1 : Int32) : ∃ (q : Int32 × Int32 × Int32 × Int32) (q' : Int32 × (Nat → Int32)), f_X10_status bads noes fulls x1 = some q ∧ f_X11_status mrefused x1 = some q' ∧ q.1 = q'.1 ∧ Rel now bl kp ring imgs tlen tby draft rall nmost keptImages fab fbe q.2.1 q.2.2.1 q.2.2.2 mw mnames mkept mtext mtexted mundo mabove mbelow q'.2 := by
  obtain ⟨b, n, f, m, c1, c2, c3⟩ := ct hR.2.2.2.2.2.2.2.2 (-2)
  obtain ⟨s0, s1, s2⟩ := id hR.2.2.2.2.2.2.2.2
  by_cases g0 : x1 = 0
  · subst g0
    exact ⟨(bads, bads, noes, fulls), (mrefused 0, mrefused), rfl, rfl, s0, hR⟩
  · by_cases g1 : x1 = 1
    · subst g1
      exact ⟨(noes, bads, noes, fulls), (mrefused 1, mrefused), rfl, rfl, s1, hR⟩
    · by_cases g2 : x1 = 2
      · subst g2
        exact ⟨(fulls, bads, noes, fulls), (mrefused 2, mrefused), rfl, rfl, s2, hR⟩
      · have g : ¬ (0 ≤ x1 ∧ x1 ≤ 2) := by
          intro z
          obtain ⟨k, rfl, _, hk⟩ := (inN_iff (x := x1) (a := 0) (b := 2) (by decide) (by decide)).mpr z
          match k, hk with
          | 0, _ => exact g0 rfl
          | 1, _ => exact g1 rfl
          | 2, _ => exact g2 rfl
        refine ⟨(-1, b, n, f), (-1, m), ?_, ?_, rfl, hR.now hR.1 (fun _ _ => rfl) (fun _ _ => rfl) c3⟩
        · unfold f_X10_status
          simp only [g0, g1, g2, c1, one0, i01, Option.bind_some, not_true, if_false, not_false_eq_true, if_true, and_self]
        · unfold f_X11_status
          have c2 : f_X11_told mrefused (-2) = some (-2, m) := c2
          unfold f_X11_told f_X11_told_B18 at c2
          have c2 : some ((-2 : Int32), upd mrefused 0 (mrefused 0 + 1)) = some (-2, m) := c2
          have c2 := (Prod.mk.inj (Option.some.inj c2)).2
          rw [← c2]
          simp only [in32 (la := 0) (lb := 2) 0 2 (by decide) (by decide), g, one0, i01, Option.bind_some, not_true, if_false, not_false_eq_true, if_true, and_self]
          rfl
theorem r_count {keptImages : Int32} {fab : Int64} {fbe : Int64} {bads : Int32} {noes : Int32} {fulls : Int32} {now : HallV} {bl : Int32} {kp : Int32} {ring : Nat → HallV} {imgs : Nat → HallV} {tlen : Int32} {tby : Nat → Int32} {draft : HallV} {rall : Nat → Int32} {nmost : Nat → Int32} {mw : Nat → Int32} {mnames : Nat → Int64} {mkept : Nat → Int32} {mtext : Nat → Int32} {mtexted : Int32} {mundo : Int32} {mabove : Int64} {mbelow : Int64} {mrefused : Nat → Int32} (hR : Rel now bl kp ring imgs tlen tby draft rall nmost keptImages fab fbe bads noes fulls mw mnames mkept mtext mtexted mundo mabove mbelow mrefused) (x1 : Int32) : ∃ (q : Int32 × Int32 × Int32 × Int32) (q' : Int32 × (Nat → Int32)), f_X10_count bads noes fulls now kp tlen x1 = some q ∧ f_X11_count mw mtexted mundo mrefused x1 = some q' ∧ q.1 = q'.1 ∧ Rel now bl kp ring imgs tlen tby draft rall nmost keptImages fab fbe q.2.1 q.2.2.1 q.2.2.2 mw mnames mkept mtext mtexted mundo mabove mbelow q'.2 := by
  obtain ⟨M, T, K, ⟨hM, hT, hK⟩, ⟨a1, a2⟩, ⟨b1, b2⟩, ⟨c1, c2⟩, hrows, hp, ht, hq, hs, hk, hd, hd2⟩ := id hR.1
  obtain ⟨b, n, f, m, c1', c2', c3⟩ := ct hR.2.2.2.2.2.2.2.2 (-2)
  obtain ⟨B, K2, hB, hK2, e1, e2, e3, hr⟩ := id hR.2.1
  obtain ⟨n2, hn2, t1, t2, ht3⟩ := id hR.2.2.2.1
  by_cases g : 0 ≤ x1 ∧ x1 ≤ 5
  · have key : ∃ r, f_X10_tally now kp tlen x1 = some r ∧ f_X11_countOf mw mtexted mundo x1 = some r := by
      obtain ⟨k, rfl, _, hk5⟩ := (inN_iff (x := x1) (a := 0) (b := 5) (by decide) (by decide)).mpr g
      match k, hk5 with
      | 0, _ => exact ⟨nI M, by rw [← a1]; rfl, by rw [← a2]; rfl⟩
      | 1, _ => exact ⟨nI T, by rw [← b1]; rfl, by rw [← b2]; rfl⟩
      | 2, _ => exact ⟨nI K, by rw [← c1]; rfl, by rw [← c2]; rfl⟩
      | 3, _ => exact ⟨nI n2, by rw [← t1]; rfl, by rw [← t2]; rfl⟩
      | 4, _ => exact ⟨nI K2, by rw [← e2]; rfl, by rw [← e3]; rfl⟩
      | 5, _ => exact ⟨mw 115, by rw [show mw 115 = now.2.2 from hd.symm]; rfl, rfl⟩
    obtain ⟨r, k1, k2⟩ := key
    refine ⟨(r, bads, noes, fulls), (r, mrefused), ?_, ?_, rfl, hR⟩
    · unfold f_X10_count
      simp only [within_eq, g, k1, one0, i01, Option.bind_some, not_true, if_false, not_false_eq_true, if_true, and_self]
    · unfold f_X11_count
      simp only [in32 (la := 0) (lb := 5) 0 5 (by decide) (by decide), g, k2, one0, i01, Option.bind_some, not_true, if_false, not_false_eq_true, if_true, and_self]
  · refine ⟨(-2, b, n, f), (-2, m), ?_, ?_, rfl, hR.now hR.1 (fun _ _ => rfl) (fun _ _ => rfl) c3⟩
    · unfold f_X10_count
      simp only [within_eq, g, c1', one0, i01, Option.bind_some, not_true, if_false, not_false_eq_true, if_true, and_self]
    · unfold f_X11_count
      simp only [in32 (la := 0) (lb := 5) 0 5 (by decide) (by decide), g, c2', one0, i01, Option.bind_some, not_true, if_false, not_false_eq_true, if_true, and_self]
theorem r_clear {keptImages : Int32} {fab : Int64} {fbe : Int64} {bads : Int32} {noes : Int32} {fulls : Int32} {now : HallV} {bl : Int32} {kp : Int32} {ring : Nat → HallV} {imgs : Nat → HallV} {tlen : Int32} {tby : Nat → Int32} {draft : HallV} {rall : Nat → Int32} {nmost : Nat → Int32} {mw : Nat → Int32} {mnames : Nat → Int64} {mkept : Nat → Int32} {mtext : Nat → Int32} {mtexted : Int32} {mundo : Int32} {mabove : Int64} {mbelow : Int64} {mrefused : Nat → Int32} (hR : Rel now bl kp ring imgs tlen tby draft rall nmost keptImages fab fbe bads noes fulls mw mnames mkept mtext mtexted mundo mabove mbelow mrefused)  : ∃ (q : Int32 × Int32) (q' : Int32 × Int32), f_X10_clear tlen = some q ∧ f_X11_clear mtexted = some q' ∧ q.1 = q'.1 ∧ Rel now bl kp ring imgs q.2 tby draft rall nmost keptImages fab fbe bads noes fulls mw mnames mkept mtext q'.2 mundo mabove mbelow mrefused := by
  obtain ⟨n2, hn2, t1, t2, ht3⟩ := id hR.2.2.2.1
  refine ⟨(tlen, 0), (mtexted, 0), rfl, rfl, t1.trans t2.symm, ?_⟩
  exact ⟨hR.1, hR.2.1, hR.2.2.1, ⟨0, by decide, rfl, rfl, fun j hj => absurd hj (Nat.not_lt_zero _)⟩, hR.2.2.2.2⟩
