/-! PURE 5: thinking, days, undoing, images -/
theorem h_think {v : HallV} {w : Nat → Int32} {nm : Nat → Int64} (h : HRel v w nm 0 0) (x : Int32) (hx : 0 ≤ x ∧ x < v.1 0) :
    ∃ (p : Nat) (s r : Int32) (v' : HallV), x = nI p ∧ p < 12 ∧ f_X1_thinkOf v x = some (r, v') ∧ f_X11_heldNow w x = some s ∧ f_X11_lesser (20 : Int32) (s + (3 : Int32)) = some r ∧ HRel v' (upd (upd w (37 + p) r) (61 + p) (w 115)) nm 0 0 := by
  obtain ⟨M, T, K, ⟨hM, hT, hK⟩, ⟨a1, a2⟩, ⟨b1, b2⟩, ⟨c1, c2⟩, hrows, hp, ht, hq, hs, hk, hd, hd2⟩ := id h
  rw [a1] at hx
  obtain ⟨p, rfl, hpM⟩ := ltM (by omega) hx
  obtain ⟨s, hs20, e1, e2⟩ := held_eq hM hpM (hp p hpM) hs hd hd2 (n := 0) (by omega)
  have e1 : f_X1_strengthLeft v (nI p) (0 : Int32) = some (nI s) := e1
  have e2 : f_X11_heldOn w (nI p) (w 115) = some (nI s) := by
    have z : w 115 + nI 0 = w 115 := Int32.add_zero _
    rwa [z] at e2
  have e3 : nI s + (3 : Int32) = nI (s + 3) := nI_add s 3
  have e4 : imin (20 : Int32) (nI (s + 3)) = nI (if s + 3 < 20 then s + 3 else 20) := by
    unfold imin
    by_cases q : s + 3 < 20
    · rw [if_pos q, if_pos (show nI (s + 3) < (20 : Int32) from nI_lt (b := 20) q (by omega))]
    · rw [if_neg q, if_neg (show ¬ nI (s + 3) < (20 : Int32) from fun z => q ((nI_ltI (b := 20) (by omega) (by omega)).mp z))]; rfl
  have e5 : f_X11_lesser (20 : Int32) (nI (s + 3)) = some (nI (if s + 3 < 20 then s + 3 else 20)) := by
    unfold f_X11_lesser
    by_cases q : s + 3 < 20
    · rw [if_pos q, if_pos (show nI (s + 3) ≤ (20 : Int32) from nI_le (b := 20) (by omega) (by omega))]
    · rw [if_neg q]
      by_cases q2 : s + 3 = 20
      · rw [if_pos (show nI (s + 3) ≤ (20 : Int32) from nI_le (b := 20) (by omega) (by omega)), q2]
      · rw [if_neg (show ¬ nI (s + 3) ≤ (20 : Int32) from fun z => by have := (nI_leI (b := 20) (by omega) (by omega)).mp z; omega)]; rfl
  generalize hr : (if s + 3 < 20 then s + 3 else 20) = r at e4 e5
  have r20 : r ≤ 20 := by rw [← hr]; split <;> omega
  refine ⟨p, nI s, nI r, hsC (hsC v 0 (vp_updL (v.2.1 0) (p * 7 + 4) (nI r).toInt64)) 0 (vp_updL (vp_updL (v.2.1 0) (p * 7 + 4) (nI r).toInt64) (p * 7 + 6) v.2.2.toInt64), rfl, by omega, ?_, ?_, ?_, ?_⟩
  · unfold f_X1_thinkOf
    simp only [e1, Option.bind_some, e3, e4, set_at (wd := 7) (N := 84) (x := nI p) (y := 4) p 4 7 rfl rfl rfl (by omega) (by decide), set_at (wd := 7) (N := 84) (x := nI p) (y := 6) p 6 7 rfl rfl rfl (by omega) (by decide), hsC_at, hsC_d]
  · unfold f_X11_heldNow
    have g : ¬ ((115 : Int32) < 0 ∨ 960 ≤ (115 : Int32).toNatClampNeg) := by decide
    rw [if_neg g, show (115 : Int32).toNatClampNeg = 115 from rfl, e2]; rfl
  · rw [e3, e5]
  · rw [hsC_C]
    simp only [Nat.zero_add] at *
    refine ⟨M, T, K, ⟨hM, hT, hK⟩, ⟨a1, ?_⟩, ⟨b1, ?_⟩, ⟨c1, ?_⟩, hrows, ?_, ?_, ?_, ?_, ?_, ?_, ?_⟩
    · simp (disch := omega) only [upd_n, a2]
    · simp (disch := omega) only [Nat.zero_add, upd_n, b2]
    · simp (disch := omega) only [Nat.zero_add, upd_n, c2]
    · intro t htM
      obtain ⟨p0, p0', p1, p2, p3, p4, p5, p6⟩ := hp t htM
      unfold PRel
      simp only [Nat.zero_add] at *
      by_cases q : t = p
      · subst q
        simp (disch := omega) only [hsC_at, updL_n, updL_s, upd_n, upd_s]
        exact ⟨p0, p0', p1, p2, p3, ⟨trivial, r, rfl, by omega, r20⟩, p5, ⟨by rw [hd], hd2, Int32.le_refl _⟩⟩
      · simp (disch := omega) only [hsC_at, updL_n, upd_n]
        exact ⟨p0, p0', p1, p2, p3, p4, p5, p6⟩
    · intro t htT
      have := ht t htT
      unfold TRel at this ⊢
      simp only [Nat.zero_add] at *
      simp (disch := omega) only [hsC_ne, upd_n]
      exact this
    · intro t htT
      have := hq t htT
      unfold QRel at this ⊢
      simp only [Nat.zero_add] at *
      simp (disch := omega) only [hsC_ne, upd_n]
      exact this
    · intro c hc
      simp (disch := omega) only [Nat.zero_add, hsC_ne, upd_n]
      exact hs c hc
    · intro c hc
      simp (disch := omega) only [Nat.zero_add, hsC_ne, upd_n]
      exact hk c hc
    · simp (disch := omega) only [Nat.zero_add, hsC_d, upd_n]
      exact hd
    · simp (disch := omega) only [Nat.zero_add, upd_n]
      exact hd2
theorem h_days {v : HallV} {w : Nat → Int32} {nm : Nat → Int64} (h : HRel v w nm 0 0) (k : Nat) (hk9 : k ≤ 999) (hc : w 115 + nI k ≤ 999) : HRel (hsD v (v.2.2 + nI k)) (upd w 115 (w 115 + nI k)) nm 0 0 := by
  obtain ⟨M, T, K, ⟨hM, hT, hK⟩, ⟨a1, a2⟩, ⟨b1, b2⟩, ⟨c1, c2⟩, hrows, hp, ht, hq, hs, hk, hd, hd2⟩ := id h
  simp only [Nat.zero_add] at *
  obtain ⟨d, ed, -, hdb⟩ := id hd2
  have e : w 115 + nI k = nI (d + k) := by rw [ed, nI_add]
  have hdk : d + k ≤ 999 := by rw [e] at hc; exact (nI_leI (b := 999) (by omega) (by omega)).mp hc
  refine ⟨M, T, K, ⟨hM, hT, hK⟩, ⟨a1, ?_⟩, ⟨b1, ?_⟩, ⟨c1, ?_⟩, hrows, ?_, ?_, ?_, ?_, ?_, ?_, ?_⟩
  · simp (disch := omega) only [upd_n, a2]
  · simp (disch := omega) only [Nat.zero_add, upd_n, b2]
  · simp (disch := omega) only [Nat.zero_add, upd_n, c2]
  · intro t htM
    obtain ⟨p0, p0', p1, p2, p3, p4, p5, p6, p7, p8⟩ := hp t htM
    unfold PRel
    simp only [Nat.zero_add] at *
    simp (disch := omega) only [hsD_2, upd_n, upd_s]
    refine ⟨p0, p0', p1, p2, p3, p4, p5, p6, p7, ?_⟩
    obtain ⟨l, el, _, hl⟩ := p7
    rw [el, ed] at p8
    have p8 := (nI_leI (by omega) (by omega)).mp p8
    rw [el, e]
    exact nI_le (by omega) (by omega)
  · intro t htT
    have := ht t htT
    unfold TRel at this ⊢
    simp only [Nat.zero_add] at *
    simp (disch := omega) only [hsD_2, upd_n]
    exact this
  · intro t htT
    have := hq t htT
    unfold QRel at this ⊢
    simp only [Nat.zero_add] at *
    simp (disch := omega) only [hsD_2, upd_n]
    exact this
  · intro c hc
    simp (disch := omega) only [Nat.zero_add, hsD_2, upd_n]
    exact hs c hc
  · intro c hc
    simp (disch := omega) only [Nat.zero_add, hsD_2, upd_n]
    exact hk c hc
  · simp only [Nat.zero_add, hsD_d, upd_s, hd]
  · simp only [Nat.zero_add, upd_s]
    exact ⟨d + k, e, by omega, hdk⟩
theorem img_eq {i : Nat} (h : i < 2) : f_X10_imageAt (nI i) = some (some i) := by
  unfold f_X10_imageAt
  rw [if_neg (nI_pos (by omega)), if_neg (nge h (by omega)), if_neg (gi h (by omega)), nI_clamp (by omega)]
theorem img_no {x : Int32} (h : ¬ (0 ≤ x ∧ x ≤ 1)) : f_X10_imageAt x = some none := by
  unfold f_X10_imageAt f_X10_imageAt_B22
  by_cases g : x < 0
  · rw [if_pos g]
  · rw [if_neg g]
    have g2 : ¬ x ≤ 1 := fun z => h ⟨Int32.not_lt.mp g, z⟩
    obtain ⟨k, hk, rfl⟩ := nI_of g
    have g3 : ¬ k ≤ 1 := fun z => g2 (nI_le (b := 1) z (by omega))
    rw [if_pos (show Int32.ofNat 2 ≤ nI k from nI_le (a := 2) (by omega) hk)]
theorem bits0 : ∀ c0 c1 : Bool, nI ((if c0 then 1 else 0) + (if c1 then 2 else 0)) ||| ((1 : Int32) <<< (nI 0 &&& (31 : Int32))) = nI (1 + (if c1 then 2 else 0)) := by decide
theorem bits1 : ∀ c0 c1 : Bool, nI ((if c0 then 1 else 0) + (if c1 then 2 else 0)) ||| ((1 : Int32) <<< (nI 1 &&& (31 : Int32))) = nI ((if c0 then 1 else 0) + 2) := by decide
theorem isin0 : ∀ c0 c1 : Bool, f_X10_isIn (nI ((if c0 then 1 else 0) + (if c1 then 2 else 0))) (nI 0) = some (if c0 then 1 else 0) := by decide
theorem isin1 : ∀ c0 c1 : Bool, f_X10_isIn (nI ((if c0 then 1 else 0) + (if c1 then 2 else 0))) (nI 1) = some (if c1 then 1 else 0) := by decide
theorem img_kept {k : Int32} {b : Nat → Bool} {i : Nat} (hi : i < 2) (hk : k = nI ((if b 0 then 1 else 0) + (if b 1 then 2 else 0))) : k ||| ((1 : Int32) <<< (nI i &&& (31 : Int32))) = nI ((if (if 0 = i then true else b 0) then 1 else 0) + (if (if 1 = i then true else b 1) then 2 else 0)) ∧ f_X10_isIn k (nI i) = some (if b i then 1 else 0) := by
  subst hk
  match i, hi with
  | 0, _ => exact ⟨bits0 _ _, isin0 _ _⟩
  | 1, _ => exact ⟨bits1 _ _, isin1 _ _⟩
theorem b115 : ¬ ((115 : Int32) < 0 ∨ 960 ≤ (115 : Int32).toNatClampNeg) := by decide
theorem d115 : ¬ ((115 : Int32) < 0 ∨ 960 ≤ 115) := by decide
theorem c115 : (115 : Int32).toNatClampNeg = 115 := by decide
theorem r_think {keptImages : Int32} {fab : Int64} {fbe : Int64} {bads : Int32} {noes : Int32} {fulls : Int32} {now : HallV} {bl : Int32} {kp : Int32} {ring : Nat → HallV} {imgs : Nat → HallV} {tlen : Int32} {tby : Nat → Int32} {draft : HallV} {rall : Nat → Int32} {nmost : Nat → Int32} {mw : Nat → Int32} {mnames : Nat → Int64} {mkept : Nat → Int32} {mtext : Nat → Int32} {mtexted : Int32} {mundo : Int32} {mabove : Int64} {mbelow : Int64} {mrefused : Nat → Int32} (hR : Rel now bl kp ring imgs tlen tby draft rall nmost keptImages fab fbe bads noes fulls mw mnames mkept mtext mtexted mundo mabove mbelow mrefused) (x1 : Int32) : ∃ (q : Int32 × Int32 × Int32 × Int32 × HallV × Int32 × Int32 × (Nat → HallV)) (q' : Int32 × (Nat → Int32) × (Nat → Int64) × Int32 × (Nat → Int32)), f_X10_think bads noes fulls now bl kp ring x1 = some q ∧ f_X11_think mw mnames mundo mrefused x1 = some q' ∧ q.1 = q'.1 ∧ Rel q.2.2.2.2.1 q.2.2.2.2.2.1 q.2.2.2.2.2.2.1 q.2.2.2.2.2.2.2 imgs tlen tby draft rall nmost keptImages fab fbe q.2.1 q.2.2.1 q.2.2.2.1 q'.2.1 q'.2.2.1 mkept mtext mtexted q'.2.2.2.1 mabove mbelow q'.2.2.2.2 := by
  obtain ⟨M, T, K, ⟨hM, hT, hK⟩, ⟨a1, a2⟩, -⟩ := id hR.1
  obtain ⟨o1, o2⟩ := isone hM a1 a2 x1
  by_cases g : 0 ≤ x1 ∧ x1 < nI M
  · obtain ⟨bl', kp', ring', w1, nm1, mu', k1, k2, k3, k4, k5⟩ := keep_ok hR.1 hR.2.1
    have hR2 := hR.past k3 k4 k5
    obtain ⟨p, s, r, v', rfl, hp12, t1, t2, t3, t4⟩ := h_think hR2.1 x1 (by rw [a1]; exact g)
    have m1 : (37 : Int32) + nI p = nI (37 + p) := nI_add 37 p
    have m2 : (61 : Int32) + nI p = nI (61 + p) := nI_add 61 p
    have q1 : upd w1 (37 + p) r 115 = w1 115 := upd_n (by omega)
    refine ⟨(r, bads, noes, fulls, v', bl', kp', ring'), (r, upd (upd w1 (37 + p) r) (61 + p) (w1 115), nm1, mu', mrefused), ?_, ?_, rfl, hR2.now t4 (fun j hj => by simp (disch := omega) only [upd_n]) (fun _ _ => rfl) hR.2.2.2.2.2.2.2.2⟩
    · unfold f_X10_think
      simp only [o1, g, k1, t1, one0, i01, Option.bind_some, not_true, if_false, not_false_eq_true, if_true, and_self]
    · unfold f_X11_think
      have q2 : upd (upd w1 (37 + p) r) (61 + p) (w1 115) (37 + p) = r := by rw [upd_n (by omega), upd_s]
      simp (disch := omega) only [o2, g, k2, t2, t3, m1, m2, gg, gg', nI_clamp, b115, d115, c115, q1, q2, one0, i01, Option.bind_some, not_true, if_false, not_false_eq_true, if_true, and_self]
  · obtain ⟨b, n, f, m, c1, c2, c3⟩ := ct hR.2.2.2.2.2.2.2.2 (-2)
    refine ⟨(-2, b, n, f, now, bl, kp, ring), (-2, mw, mnames, mundo, m), ?_, ?_, rfl, hR.now hR.1 (fun _ _ => rfl) (fun _ _ => rfl) c3⟩
    · unfold f_X10_think
      simp only [o1, g, c1, one0, i01, Option.bind_some, not_true, if_false, not_false_eq_true, if_true, and_self]
    · unfold f_X11_think
      simp only [o2, g, c2, one0, i01, Option.bind_some, not_true, if_false, not_false_eq_true, if_true, and_self]
theorem r_days {keptImages : Int32} {fab : Int64} {fbe : Int64} {bads : Int32} {noes : Int32} {fulls : Int32} {now : HallV} {bl : Int32} {kp : Int32} {ring : Nat → HallV} {imgs : Nat → HallV} {tlen : Int32} {tby : Nat → Int32} {draft : HallV} {rall : Nat → Int32} {nmost : Nat → Int32} {mw : Nat → Int32} {mnames : Nat → Int64} {mkept : Nat → Int32} {mtext : Nat → Int32} {mtexted : Int32} {mundo : Int32} {mabove : Int64} {mbelow : Int64} {mrefused : Nat → Int32} (hR : Rel now bl kp ring imgs tlen tby draft rall nmost keptImages fab fbe bads noes fulls mw mnames mkept mtext mtexted mundo mabove mbelow mrefused) (x1 : Int32) : ∃ (q : Int32 × Int32 × Int32 × Int32 × HallV × Int32 × Int32 × (Nat → HallV)) (q' : Int32 × (Nat → Int32) × (Nat → Int64) × Int32 × (Nat → Int32)), f_X10_days bads noes fulls now bl kp ring x1 = some q ∧ f_X11_days mw mnames mundo mrefused x1 = some q' ∧ q.1 = q'.1 ∧ Rel q.2.2.2.2.1 q.2.2.2.2.2.1 q.2.2.2.2.2.2.1 q.2.2.2.2.2.2.2 imgs tlen tby draft rall nmost keptImages fab fbe q.2.1 q.2.2.1 q.2.2.2.1 q'.2.1 q'.2.2.1 mkept mtext mtexted q'.2.2.2.1 mabove mbelow q'.2.2.2.2 := by
  obtain ⟨M, T, K, -, -, -, -, -, -, -, -, -, -, hd, hd2⟩ := id hR.1
  by_cases g : 1 ≤ x1 ∧ x1 ≤ 999
  · have e0 : now.2.2 = mw 115 := hd
    by_cases g2 : mw 115 + x1 ≤ 999
    · obtain ⟨bl', kp', ring', w1, nm1, mu', k1, k2, k3, k4, k5⟩ := keep_ok hR.1 hR.2.1
      have hR2 := hR.past k3 k4 k5
      obtain ⟨k, rfl, _, hk9⟩ := (inN_iff (x := x1) (a := 1) (b := 999) (by decide) (by decide)).mpr g
      have w5 : w1 115 = mw 115 := k4 115 (by omega)
      have t4 := h_days hR2.1 k hk9 (by rw [w5]; exact g2)
      refine ⟨(now.2.2 + nI k, bads, noes, fulls, hsD now (now.2.2 + nI k), bl', kp', ring'), (now.2.2 + nI k, upd w1 115 (w1 115 + nI k), nm1, mu', mrefused), ?_, ?_, rfl, hR2.now t4 (fun j hj => by simp (disch := omega) only [upd_n]) (fun _ _ => rfl) hR.2.2.2.2.2.2.2.2⟩
      · unfold f_X10_days
        simp only [within_eq, g, k1, hsD_d, e0, g2, one0, i01, Option.bind_some, not_true, if_false, not_false_eq_true, if_true, and_self]
      · unfold f_X11_days
        simp only [in32 (la := 1) (lb := 999) 1 999 (by decide) (by decide), g, g2, k2, b115, d115, c115, upd_s, w5, e0, one0, i01, Option.bind_some, not_true, if_false, not_false_eq_true, if_true, and_self]
    · obtain ⟨b, n, f, m, c1, c2, c3⟩ := ct hR.2.2.2.2.2.2.2.2 (-3)
      refine ⟨(-3, b, n, f, now, bl, kp, ring), (-3, mw, mnames, mundo, m), ?_, ?_, rfl, hR.now hR.1 (fun _ _ => rfl) (fun _ _ => rfl) c3⟩
      · unfold f_X10_days
        simp only [within_eq, g, e0, g2, c1, one0, i01, Option.bind_some, not_true, if_false, not_false_eq_true, if_true, and_self]
      · unfold f_X11_days
        simp only [in32 (la := 1) (lb := 999) 1 999 (by decide) (by decide), g, g2, b115, d115, c115, c2, one0, i01, Option.bind_some, not_true, if_false, not_false_eq_true, if_true, and_self]
  · obtain ⟨b, n, f, m, c1, c2, c3⟩ := ct hR.2.2.2.2.2.2.2.2 (-2)
    refine ⟨(-2, b, n, f, now, bl, kp, ring), (-2, mw, mnames, mundo, m), ?_, ?_, rfl, hR.now hR.1 (fun _ _ => rfl) (fun _ _ => rfl) c3⟩
    · unfold f_X10_days
      simp only [within_eq, g, c1, one0, i01, Option.bind_some, not_true, if_false, not_false_eq_true, if_true, and_self]
    · unfold f_X11_days
      simp only [in32 (la := 1) (lb := 999) 1 999 (by decide) (by decide), g, c2, one0, i01, Option.bind_some, not_true, if_false, not_false_eq_true, if_true, and_self]
theorem r_undo {keptImages : Int32} {fab : Int64} {fbe : Int64} {bads : Int32} {noes : Int32} {fulls : Int32} {now : HallV} {bl : Int32} {kp : Int32} {ring : Nat → HallV} {imgs : Nat → HallV} {tlen : Int32} {tby : Nat → Int32} {draft : HallV} {rall : Nat → Int32} {nmost : Nat → Int32} {mw : Nat → Int32} {mnames : Nat → Int64} {mkept : Nat → Int32} {mtext : Nat → Int32} {mtexted : Int32} {mundo : Int32} {mabove : Int64} {mbelow : Int64} {mrefused : Nat → Int32} (hR : Rel now bl kp ring imgs tlen tby draft rall nmost keptImages fab fbe bads noes fulls mw mnames mkept mtext mtexted mundo mabove mbelow mrefused)  : ∃ (q : Int32 × Int32 × Int32 × Int32 × HallV × Int32 × Int32) (q' : Int32 × (Nat → Int32) × (Nat → Int64) × Int32 × (Nat → Int32)), f_X10_undo bads noes fulls now bl kp ring = some q ∧ f_X11_undo mw mnames mundo mrefused = some q' ∧ q.1 = q'.1 ∧ Rel q.2.2.2.2.1 q.2.2.2.2.2.1 q.2.2.2.2.2.2 ring imgs tlen tby draft rall nmost keptImages fab fbe q.2.1 q.2.2.1 q.2.2.2.1 q'.2.1 q'.2.2.1 mkept mtext mtexted q'.2.2.2.1 mabove mbelow q'.2.2.2.2 := by
  obtain ⟨B, K, hB, hK, rfl, rfl, rfl, hr⟩ := id hR.2.1
  have i0 : (nI B + (4 : Int32)) - (1 : Int32) = nI (B + 3) := by
    rw [show nI B + (4 : Int32) = nI (B + 4) from nI_add B 4]; exact nI_sub (b := 1) (by omega)
  have i1 : irm ((nI B + (4 : Int32)) - (1 : Int32)) (4 : Int32) = nI ((B + 3) % 4) := by
    rw [i0]; exact irm_n (b := 4) (by omega) (by omega)
  have b4 : (B + 3) % 4 < 4 := by omega
  by_cases z : K = 0
  · subst z
    obtain ⟨b, n, f, m, c1, c2, c3⟩ := ct hR.2.2.2.2.2.2.2.2 (-3)
    refine ⟨(-3, b, n, f, now, nI B, nI 0), (-3, mw, mnames, nI 0, m), ?_, ?_, rfl, hR.now hR.1 (fun _ _ => rfl) (fun _ _ => rfl) c3⟩
    · unfold f_X10_undo f_X5_giveBack
      have z0 : nI 0 = (0 : Int32) := rfl
      simp only [i1, slotAt_eq rfl b4, Option.elim_some, b4, z0, c1, Option.bind_some, if_true]
    · unfold f_X11_undo
      have z0 : nI 0 = (0 : Int32) := rfl
      simp only [z0, if_true, c2, Option.bind_some]
  · obtain ⟨v', eb, hv⟩ := become_ok now (ring ((B + 3) % 4))
    have zK : ¬ nI K = (0 : Int32) := nI_ne0 (by omega) (by omega)
    have k1 : nI K - (1 : Int32) = nI (K - 1) := nI_sub (b := 1) (by omega)
    have k2 : (480 : Int32) + (120 : Int32) * nI (K - 1) = nI (120 * (4 + (K - 1))) := by
      rw [show (480 : Int32) = nI 480 from rfl, show (120 : Int32) = nI 120 from rfl, nI_mul, nI_add]; congr 1; omega
    have hl := hr (K - 1) (by omega)
    rw [show (B + 4 - K + (K - 1)) % 4 = (B + 3) % 4 from by omega] at hl
    have hn : HRel v' (cpN mw (120 * (4 + (K - 1))) (120 * 0) 120) (cpN mnames (12 * (4 + (K - 1))) (12 * 0) 12) 0 0 := by
      refine (hv hl).mv (fun j hj => ?_) (fun j hj => ?_)
      · rw [show 0 + j = 120 * 0 + j from by omega, cp_in hj, show 480 + 120 * (K - 1) + j = 120 * (4 + (K - 1)) + j from by omega]
      · rw [show 0 + j = 12 * 0 + j from by omega, cp_in hj, show 48 + 12 * (K - 1) + j = 12 * (4 + (K - 1)) + j from by omega]
    have hR2 := hR.now hn (fun j hj => cp_out (by omega)) (fun j hj => cp_out (by omega)) hR.2.2.2.2.2.2.2.2
    obtain ⟨_, _, _, _, e1, e2, e3, hr2⟩ := id hR2.2.1
    refine ⟨((1 : Int32), bads, noes, fulls, v', nI ((B + 3) % 4), nI (K - 1)), ((1 : Int32), cpN mw (120 * (4 + (K - 1))) (120 * 0) 120, cpN mnames (12 * (4 + (K - 1))) (12 * 0) 12, nI (K - 1), mrefused), ?_, ?_, rfl, ?_⟩
    · unfold f_X10_undo f_X5_giveBack
      simp only [i1, slotAt_eq rfl b4, Option.elim_some, b4, zK, eb, k1, Option.bind_some, if_true, if_false, one0]
    · unfold f_X11_undo
      simp only [zK, if_false, k1, copy_eq (y := 0) (4 + (K - 1)) 0 (by omega) (by omega) k2 rfl, Option.bind_some]
    · refine hR2.past ⟨(B + 3) % 4, K - 1, by omega, by omega, rfl, rfl, rfl, fun j hj => ?_⟩ (fun _ _ => rfl) (fun _ _ => rfl)
      rw [show ((B + 3) % 4 + 4 - (K - 1) + j) % 4 = (B + 4 - K + j) % 4 from by omega]
      exact (hr j (by omega)).fr (fun i h1 h2 => cp_out (by omega)) (fun i h1 h2 => cp_out (by omega))
theorem r_image {keptImages : Int32} {fab : Int64} {fbe : Int64} {bads : Int32} {noes : Int32} {fulls : Int32} {now : HallV} {bl : Int32} {kp : Int32} {ring : Nat → HallV} {imgs : Nat → HallV} {tlen : Int32} {tby : Nat → Int32} {draft : HallV} {rall : Nat → Int32} {nmost : Nat → Int32} {mw : Nat → Int32} {mnames : Nat → Int64} {mkept : Nat → Int32} {mtext : Nat → Int32} {mtexted : Int32} {mundo : Int32} {mabove : Int64} {mbelow : Int64} {mrefused : Nat → Int32} (hR : Rel now bl kp ring imgs tlen tby draft rall nmost keptImages fab fbe bads noes fulls mw mnames mkept mtext mtexted mundo mabove mbelow mrefused) (x1 : Int32) : ∃ (q : Int32 × Int32 × Int32 × Int32 × Int32 × (Nat → HallV)) (q' : Int32 × (Nat → Int32) × (Nat → Int64) × (Nat → Int32) × (Nat → Int32)), f_X10_image keptImages bads noes fulls now imgs x1 = some q ∧ f_X11_image mw mnames mkept mrefused x1 = some q' ∧ q.1 = q'.1 ∧ Rel now bl kp ring q.2.2.2.2.2 tlen tby draft rall nmost q.2.1 fab fbe q.2.2.1 q.2.2.2.1 q.2.2.2.2.1 q'.2.1 q'.2.2.1 q'.2.2.2.1 mtext mtexted mundo mabove mbelow q'.2.2.2.2 := by
  obtain ⟨bb, hk, hi⟩ := id hR.2.2.1
  by_cases g : 0 ≤ x1 ∧ x1 ≤ 1
  · obtain ⟨i, rfl, _, hi2⟩ := (inN_iff (x := x1) (a := 0) (b := 1) (by decide) (by decide)).mpr g
    obtain ⟨v', eb, hv⟩ := become_ok (imgs i) now
    have k1 : (120 : Int32) * ((1 : Int32) + nI i) = nI (120 * (1 + i)) := by
      rw [show (1 : Int32) = nI 1 from rfl, show (120 : Int32) = nI 120 from rfl, nI_add, nI_mul]
    have n1 : vp_nar .boolean (1 : Int32) = 1 := by decide
    have i2 : i < 2 := by omega
    refine ⟨((1 : Int32), keptImages ||| ((1 : Int32) <<< (nI i &&& (31 : Int32))), bads, noes, fulls, va_up imgs i v'), ((1 : Int32), cpN mw (120 * 0) (120 * (1 + i)) 120, cpN mnames (12 * 0) (12 * (1 + i)) 12, upd mkept i 1, mrefused), ?_, ?_, rfl, ?_⟩
    · unfold f_X10_image
      simp only [img_eq i2, Option.bind_some, Option.elim_some, i2, if_true, eb]
    · unfold f_X11_image
      simp (disch := omega) only [in32 (la := 0) (lb := 1) 0 1 (by decide) (by decide), g, copy_eq (x := 0) 0 (1 + i) (by omega) (by omega) rfl k1, gg, gg', nI_clamp, n1, one0, i01, Option.bind_some, not_true, if_false, not_false_eq_true, if_true, and_self]
    · refine ⟨hR.1.fr (fun j _ _ => cp_out (by omega)) (fun j _ _ => cp_out (by omega)), ?_, ⟨fun k => if k = i then true else bb k, (img_kept i2 hk).1, fun k hk2 => ?_⟩, hR.2.2.2⟩
      · obtain ⟨B, K, hB, hK, e1, e2, e3, hr⟩ := id hR.2.1
        exact ⟨B, K, hB, hK, e1, e2, e3, fun j hj => (hr j hj).fr (fun i h1 h2 => cp_out (by omega)) (fun i h1 h2 => cp_out (by omega))⟩
      · by_cases q : k = i
        · subst q
          dsimp only
          refine ⟨?_, fun _ => ?_⟩
          · rw [upd_s]; simp
          · rw [va_up_self]
            refine (hv hR.1).mv (fun j hj => ?_) (fun j hj => ?_)
            · rw [cp_in hj]
            · rw [cp_in hj]
        · dsimp only
          simp only [q, if_false]
          rw [upd_n q, va_up_ne _ _ q]
          exact ⟨(hi k hk2).1, fun hb => ((hi k hk2).2 hb).fr (fun j h1 h2 => cp_out (by omega)) (fun j h1 h2 => cp_out (by omega))⟩
  · obtain ⟨b, n, f, m, c1, c2, c3⟩ := ct hR.2.2.2.2.2.2.2.2 (-2)
    refine ⟨(-2, keptImages, b, n, f, imgs), (-2, mw, mnames, mkept, m), ?_, ?_, rfl, hR.now hR.1 (fun _ _ => rfl) (fun _ _ => rfl) c3⟩
    · unfold f_X10_image
      simp only [img_no g, Option.bind_some, Option.elim_none, c1]
    · unfold f_X11_image
      simp only [in32 (la := 0) (lb := 1) 0 1 (by decide) (by decide), g, c2, one0, i01, Option.bind_some, not_true, if_false, not_false_eq_true, if_true, and_self]
theorem r_from {keptImages : Int32} {fab : Int64} {fbe : Int64} {bads : Int32} {noes : Int32} {fulls : Int32} {now : HallV} {bl : Int32} {kp : Int32} {ring : Nat → HallV} {imgs : Nat → HallV} {tlen : Int32} {tby : Nat → Int32} {draft : HallV} {rall : Nat → Int32} {nmost : Nat → Int32} {mw : Nat → Int32} {mnames : Nat → Int64} {mkept : Nat → Int32} {mtext : Nat → Int32} {mtexted : Int32} {mundo : Int32} {mabove : Int64} {mbelow : Int64} {mrefused : Nat → Int32} (hR : Rel now bl kp ring imgs tlen tby draft rall nmost keptImages fab fbe bads noes fulls mw mnames mkept mtext mtexted mundo mabove mbelow mrefused) (x1 : Int32) : ∃ (q : Int32 × Int32 × Int32 × Int32 × HallV × Int32) (q' : Int32 × (Nat → Int32) × (Nat → Int64) × Int32 × (Nat → Int32)), f_X10_from keptImages bads noes fulls now kp imgs x1 = some q ∧ f_X11_from mw mnames mkept mundo mrefused x1 = some q' ∧ q.1 = q'.1 ∧ Rel q.2.2.2.2.1 bl q.2.2.2.2.2 ring imgs tlen tby draft rall nmost keptImages fab fbe q.2.1 q.2.2.1 q.2.2.2.1 q'.2.1 q'.2.2.1 mkept mtext mtexted q'.2.2.2.1 mabove mbelow q'.2.2.2.2 := by
  obtain ⟨bb, hk, hi⟩ := id hR.2.2.1
  by_cases g : 0 ≤ x1 ∧ x1 ≤ 1
  · obtain ⟨i, rfl, _, hi2⟩ := (inN_iff (x := x1) (a := 0) (b := 1) (by decide) (by decide)).mpr g
    have i2 : i < 2 := by omega
    have hki := (hi i i2).1
    have hin := (img_kept i2 hk).2
    by_cases hb : bb i = true
    · rw [hb] at hki hin
      simp only [if_true] at hki hin
      obtain ⟨v', eb, hv⟩ := become_ok now (imgs i)
      have k1 : (120 : Int32) * ((1 : Int32) + nI i) = nI (120 * (1 + i)) := by
        rw [show (1 : Int32) = nI 1 from rfl, show (120 : Int32) = nI 120 from rfl, nI_add, nI_mul]
      have hn : HRel v' (cpN mw (120 * (1 + i)) (120 * 0) 120) (cpN mnames (12 * (1 + i)) (12 * 0) 12) 0 0 := by
        refine (hv ((hi i i2).2 hb)).mv (fun j hj => ?_) (fun j hj => ?_)
        · rw [show 0 + j = 120 * 0 + j from by omega, cp_in hj]
        · rw [show 0 + j = 12 * 0 + j from by omega, cp_in hj]
      have hR2 := hR.now hn (fun j hj => cp_out (by omega)) (fun j hj => cp_out (by omega)) hR.2.2.2.2.2.2.2.2
      obtain ⟨B, K, hB, hK, e1, e2, e3, hr⟩ := id hR2.2.1
      refine ⟨((1 : Int32), bads, noes, fulls, v', (0 : Int32)), ((1 : Int32), cpN mw (120 * (1 + i)) (120 * 0) 120, cpN mnames (12 * (1 + i)) (12 * 0) 12, (0 : Int32), mrefused), ?_, ?_, rfl, hR2.past ⟨B, 0, hB, by omega, e1, rfl, rfl, fun j hj => absurd hj (Nat.not_lt_zero _)⟩ (fun _ _ => rfl) (fun _ _ => rfl)⟩
      · unfold f_X10_from f_X5_forget
        simp only [img_eq i2, Option.bind_some, Option.elim_some, i2, if_true, hin, one0, if_false, eb]
      · unfold f_X11_from
        simp (disch := omega) only [in32 (la := 0) (lb := 1) 0 1 (by decide) (by decide), g, copy_eq (y := 0) (1 + i) 0 (by omega) (by omega) k1 rfl, gg, gg', nI_clamp, hki, one0, i01, Option.bind_some, not_true, if_false, not_false_eq_true, if_true, and_self]
    · have hb : bb i = false := by simpa using hb
      rw [hb] at hki hin
      simp only [Bool.false_eq_true, if_false] at hki hin
      obtain ⟨b, n, f, m, c1, c2, c3⟩ := ct hR.2.2.2.2.2.2.2.2 (-3)
      refine ⟨(-3, b, n, f, now, kp), (-3, mw, mnames, mundo, m), ?_, ?_, rfl, hR.now hR.1 (fun _ _ => rfl) (fun _ _ => rfl) c3⟩
      · unfold f_X10_from
        simp only [img_eq i2, Option.bind_some, Option.elim_some, i2, if_true, hin, c1]
      · unfold f_X11_from
        simp (disch := omega) only [in32 (la := 0) (lb := 1) 0 1 (by decide) (by decide), g, gg, gg', nI_clamp, hki, c2, one0, i01, Option.bind_some, not_true, if_false, not_false_eq_true, if_true, and_self]
  · obtain ⟨b, n, f, m, c1, c2, c3⟩ := ct hR.2.2.2.2.2.2.2.2 (-2)
    refine ⟨(-2, b, n, f, now, kp), (-2, mw, mnames, mundo, m), ?_, ?_, rfl, hR.now hR.1 (fun _ _ => rfl) (fun _ _ => rfl) c3⟩
    · unfold f_X10_from
      simp only [img_no g, Option.bind_some, Option.elim_none, c1]
    · unfold f_X11_from
      simp only [in32 (la := 0) (lb := 1) 0 1 (by decide) (by decide), g, c2, one0, i01, Option.bind_some, not_true, if_false, not_false_eq_true, if_true, and_self]
