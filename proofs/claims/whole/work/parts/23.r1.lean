theorem r_put {keptImages : Int32} {fab : Int64} {fbe : Int64} {bads : Int32} {noes : Int32} {fulls : Int32} {now : HallV} {bl : Int32} {kp : Int32} {ring : Nat → HallV} {imgs : Nat → HallV} {tlen : Int32} {tby : Nat → Int32} {draft : HallV} {rall : Nat → Int32} {nmost : Nat → Int32} {mw : Nat → Int32} {mnames : Nat → Int64} {mkept : Nat → Int32} {mtext : Nat → Int32} {mtexted : Int32} {mundo : Int32} {mabove : Int64} {mbelow : Int64} {mrefused : Nat → Int32} (hR : Rel now bl kp ring imgs tlen tby draft rall nmost keptImages fab fbe bads noes fulls mw mnames mkept mtext mtexted mundo mabove mbelow mrefused) (x1 : Int32) (x2 : Int32) : ∃ (q : Int32 × Int32 × Int32 × Int32 × HallV) (q' : Int32 × (Nat → Int32) × (Nat → Int32)), f_X10_put bads noes fulls now x1 x2 = some q ∧ f_X11_put mw mrefused x1 x2 = some q' ∧ q.1 = q'.1 ∧ Rel q.2.2.2.2 bl kp ring imgs tlen tby draft rall nmost keptImages fab fbe q.2.1 q.2.2.1 q.2.2.2.1 q'.2.1 mnames mkept mtext mtexted mundo mabove mbelow q'.2.2 := by
  obtain ⟨r, v', w', h1, h2, h3, h4, _⟩ := h_set hR.1 (by omega) x1 x2
  obtain ⟨b, n, f, m, c1, c2, c3⟩ := ct hR.2.2.2.2.2.2.2.2 r
  refine ⟨(r, b, n, f, v'), (r, w', m), ?_, ?_, rfl, hR.now h3 (fun j hj => h4 j (Or.inr hj)) (fun _ _ => rfl) c3⟩
  · unfold f_X10_put
    simp only [h1, Option.bind_some, c1]
  · unfold f_X11_put
    have h2 : f_X11_set mw (0 : Int32) x1 x2 = some (r, w') := h2
    simp only [h2, Option.bind_some, c2]
theorem r_addTry {keptImages : Int32} {fab : Int64} {fbe : Int64} {bads : Int32} {noes : Int32} {fulls : Int32} {now : HallV} {bl : Int32} {kp : Int32} {ring : Nat → HallV} {imgs : Nat → HallV} {tlen : Int32} {tby : Nat → Int32} {draft : HallV} {rall : Nat → Int32} {nmost : Nat → Int32} {mw : Nat → Int32} {mnames : Nat → Int64} {mkept : Nat → Int32} {mtext : Nat → Int32} {mtexted : Int32} {mundo : Int32} {mabove : Int64} {mbelow : Int64} {mrefused : Nat → Int32} (hR : Rel now bl kp ring imgs tlen tby draft rall nmost keptImages fab fbe bads noes fulls mw mnames mkept mtext mtexted mundo mabove mbelow mrefused) (x1 : Int32) (x2 : Int32) (x3 : Int32) : ∃ (q : Int32 × Int32 × Int32 × Int32 × HallV) (q' : Int32 × (Nat → Int32) × (Nat → Int32)), f_X10_addTry bads noes fulls now x1 x2 x3 = some q ∧ f_X11_addTry mw mrefused x1 x2 x3 = some q' ∧ q.1 = q'.1 ∧ Rel q.2.2.2.2 bl kp ring imgs tlen tby draft rall nmost keptImages fab fbe q.2.1 q.2.2.1 q.2.2.2.1 q'.2.1 mnames mkept mtext mtexted mundo mabove mbelow q'.2.2 := by
  obtain ⟨r, v', w', h1, h2, h3, h4, _⟩ := h_try hR.1 (by omega) x1 x2 x3
  obtain ⟨b, n, f, m, c1, c2, c3⟩ := ct hR.2.2.2.2.2.2.2.2 r
  refine ⟨(r, b, n, f, v'), (r, w', m), ?_, ?_, rfl, hR.now h3 (fun j hj => h4 j (Or.inr hj)) (fun _ _ => rfl) c3⟩
  · unfold f_X10_addTry
    simp only [h1, Option.bind_some, c1]
  · unfold f_X11_addTry
    have h2 : f_X11_oneTry mw (0 : Int32) x1 x2 x3 = some (r, w') := h2
    simp only [h2, Option.bind_some, c2]
theorem r_question {keptImages : Int32} {fab : Int64} {fbe : Int64} {bads : Int32} {noes : Int32} {fulls : Int32} {now : HallV} {bl : Int32} {kp : Int32} {ring : Nat → HallV} {imgs : Nat → HallV} {tlen : Int32} {tby : Nat → Int32} {draft : HallV} {rall : Nat → Int32} {nmost : Nat → Int32} {mw : Nat → Int32} {mnames : Nat → Int64} {mkept : Nat → Int32} {mtext : Nat → Int32} {mtexted : Int32} {mundo : Int32} {mabove : Int64} {mbelow : Int64} {mrefused : Nat → Int32} (hR : Rel now bl kp ring imgs tlen tby draft rall nmost keptImages fab fbe bads noes fulls mw mnames mkept mtext mtexted mundo mabove mbelow mrefused) (x1 : Int32) (x2 : Int32) : ∃ (q : Int32 × Int32 × Int32 × Int32 × HallV) (q' : Int32 × (Nat → Int32) × (Nat → Int32)), f_X10_question bads noes fulls now x1 x2 = some q ∧ f_X11_question mw mrefused x1 x2 = some q' ∧ q.1 = q'.1 ∧ Rel q.2.2.2.2 bl kp ring imgs tlen tby draft rall nmost keptImages fab fbe q.2.1 q.2.2.1 q.2.2.2.1 q'.2.1 mnames mkept mtext mtexted mundo mabove mbelow q'.2.2 := by
  obtain ⟨r, v', w', h1, h2, h3, h4, _⟩ := h_question hR.1 (by omega) x1 x2
  obtain ⟨b, n, f, m, c1, c2, c3⟩ := ct hR.2.2.2.2.2.2.2.2 r
  refine ⟨(r, b, n, f, v'), (r, w', m), ?_, ?_, rfl, hR.now h3 (fun j hj => h4 j (Or.inr hj)) (fun _ _ => rfl) c3⟩
  · unfold f_X10_question
    simp only [h1, Option.bind_some, c1]
  · unfold f_X11_question
    have h2 : f_X11_oneQuestion mw (0 : Int32) x1 x2 = some (r, w') := h2
    simp only [h2, Option.bind_some, c2]
