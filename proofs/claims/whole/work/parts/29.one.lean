/-! PURE 7: one more told of -/
theorem pv_eq {c : Nat} (hc : c < 5) (x : Int32) : f_X1_isPartValue (nI c) x = some (if nI (kLo c) ≤ x ∧ x ≤ nI (kHi c) then 1 else 0) := by
  unfold f_X1_isPartValue
  simp only [ats_eq (i := 3) (k := c) (x := nI c) rfl hc (by decide), ats_eq (i := 4) (k := c) (x := nI c) rfl hc (by decide), st3 c hc, st4 c hc, Option.bind_some, within_eq, i01b, if_true]
theorem pv2 (x : Int32) : f_X1_isPartValue (2 : Int32) x = some (if 1 ≤ x ∧ x ≤ 5 then 1 else 0) := pv_eq (c := 2) (by decide) x
theorem pv3 (x : Int32) : f_X1_isPartValue (3 : Int32) x = some (if 0 ≤ x ∧ x ≤ 5 then 1 else 0) := pv_eq (c := 3) (by decide) x
theorem pv4 (x : Int32) : f_X1_isPartValue (4 : Int32) x = some (if 0 ≤ x ∧ x ≤ 5 then 1 else 0) := pv_eq (c := 4) (by decide) x
set_option maxHeartbeats 2000000 in
theorem h_one {v : HallV} {w : Nat → Int32} {nm : Nat → Int64} {o no : Nat} (h : HRel v w nm o no) (ho : o + 120 ≤ 960) (hno : o = 10 * no) (x1 : Int64) (x3 x4 x5 x6 x7 : Int32) :
    ∃ (r : Int32) (v' : HallV) (w' : Nat → Int32) (nm' : Nat → Int64), f_X1_tellOne v x1 x3 x4 x5 x6 x7 = some (r, v') ∧ f_X11_addOne w nm (nI o) x1 x3 x4 x5 x6 x7 = some (r, w', nm') ∧ HRel v' w' nm' o no ∧ (∀ j, (j < o ∨ o + 120 ≤ j) → w' j = w j) ∧ (∀ j, (j < no ∨ no + 12 ≤ j) → nm' j = nm j) ∧ (r = -2 ∨ r = -4 ∨ ∃ k, r = nI k ∧ k < 12) := by
  obtain ⟨M, T, K, ⟨hM, hT, hK⟩, ⟨a1, a2⟩, ⟨b1, b2⟩, ⟨c1, c2⟩, hrows, hp, ht, hq, hs, hk, hd, hd2⟩ := id h
  obtain ⟨c, n1, n2, n3⟩ := isName_eq x1
  have z1 : ∀ {r r' : Option (Int32 × HallV)}, (if (1 : Int32) = 0 then r else r') = r' := fun {r r'} => if_neg (by decide)
  unfold f_X1_tellOne f_X11_addOne f_X1_tellOne_B19 f_X1_tellOne_B20 f_X1_tellOne_B44 f_X1_tellOne_B45
  simp only [n1, n2, pv2, pv3, pv4, within_eq, in32 (la := 0) (lb := 5) 0 5 (by decide) (by decide), in32 (la := 1) (lb := 5) 1 5 (by decide) (by decide), in32 (la := 0) (lb := 20) 0 20 (by decide) (by decide), in32 (la := 1) (lb := 9) 1 9 (by decide) (by decide), Option.bind_some, i01, one0, if_false, if_true, addRow_eq (mo := 12) M 12 rfl a1 (by omega) (by omega)]
  by_cases g0 : c = true
  · by_cases g1 : (1 ≤ x3 ∧ x3 ≤ 5)
    · by_cases g2 : (0 ≤ x4 ∧ x4 ≤ 5)
      · by_cases g3 : (0 ≤ x5 ∧ x5 ≤ 5)
        · by_cases g4 : (0 ≤ x6 ∧ x6 ≤ 20)
          · by_cases g5 : (1 ≤ x7 ∧ x7 ≤ 9)
            · have e0 : nI o + (0 : Int32) = nI o := Int32.add_zero _
              have e1 : nI o + (1 : Int32) = nI (o + 1) := nI_add o 1
              have e13 : nI o + (13 : Int32) = nI (o + 13) := nI_add o 13
              have e25 : nI o + (25 : Int32) = nI (o + 25) := nI_add o 25
              have e37 : nI o + (37 : Int32) = nI (o + 37) := nI_add o 37
              have e49 : nI o + (49 : Int32) = nI (o + 49) := nI_add o 49
              have e61 : nI o + (61 : Int32) = nI (o + 61) := nI_add o 61
              have e115 : nI o + (115 : Int32) = nI (o + 115) := nI_add o 115
              have ed : nI o / (10 : Int32) = nI no := by rw [show (10 : Int32) = nI 10 from rfl, nI_div (by omega) (by omega)]; congr 1; omega
              have eM : nI M + (1 : Int32) = nI (M + 1) := nI_add M 1
              have t12 : nI M = (12 : Int32) ↔ M = 12 := nI_eq (a := M) (b := 12) (by omega) (by omega)
              simp (disch := omega) only [g0, g1, g2, g3, g4, g5, not_true, if_false, and_self, e0, e1, e13, e25, e37, e49, e61, e115, ed, a2, nI_add, gg, gg', nI_clamp, upd_n, eM, t12]
              by_cases k4 : M < 12
              · have k5 : ¬ M = 12 := by omega
                simp only [if_pos k4, if_neg (nI_pos (n := M) (by omega)), if_neg k5, set_at (wd := 7) (N := 84) (x := nI M) (y := 0) M 0 7 rfl rfl rfl (by omega) (by decide), set_at (wd := 7) (N := 84) (x := nI M) (y := 1) M 1 7 rfl rfl rfl (by omega) (by decide), set_at (wd := 7) (N := 84) (x := nI M) (y := 2) M 2 7 rfl rfl rfl (by omega) (by decide), set_at (wd := 7) (N := 84) (x := nI M) (y := 3) M 3 7 rfl rfl rfl (by omega) (by decide), set_at (wd := 7) (N := 84) (x := nI M) (y := 4) M 4 7 rfl rfl rfl (by omega) (by decide), set_at (wd := 7) (N := 84) (x := nI M) (y := 5) M 5 7 rfl rfl rfl (by omega) (by decide), set_at (wd := 7) (N := 84) (x := nI M) (y := 6) M 6 7 rfl rfl rfl (by omega) (by decide), Option.bind_some, hsC_C, hsC_at, hsC_d, hsR_2, hsR_d]
                refine ⟨_, _, _, _, rfl, rfl, ?_, ?_, ?_, Or.inr (Or.inr ⟨M, rfl, by omega⟩)⟩
                · refine ⟨M + 1, T, K, ⟨by omega, hT, hK⟩, ⟨?_, ?_⟩, ⟨?_, ?_⟩, ⟨?_, ?_⟩, ⟨?_, ?_⟩, ?_, ?_, ?_, ?_, ?_, ?_, ?_⟩
                  · simp only [hsC_1, hsR_at]
                  · rw [upd_s]
                  · simp (disch := omega) only [hsC_1, hsR_ne, b1]
                  · simp (disch := omega) only [upd_n, b2]
                  · simp (disch := omega) only [hsC_1, hsR_ne, c1]
                  · simp (disch := omega) only [upd_n, c2]
                  · simp (disch := omega) only [hsC_1, hsR_ne, hrows.1]
                  · simp (disch := omega) only [hsC_1, hsR_ne, hrows.2]
                  · intro p hpM
                    unfold PRel
                    by_cases q : p = M
                    · subst q
                      have i1 := (inN_iff (x := x3) (a := 1) (b := 5) (by decide) (by decide)).mpr g1
                      have i2 := (inN_iff (x := x4) (a := 0) (b := 5) (by decide) (by decide)).mpr g2
                      have i3 := (inN_iff (x := x5) (a := 0) (b := 5) (by decide) (by decide)).mpr g3
                      have i4 := (inN_iff (x := x6) (a := 0) (b := 20) (by decide) (by decide)).mpr g4
                      have i5 := (inN_iff (x := x7) (a := 1) (b := 9) (by decide) (by decide)).mpr g5
                      simp (disch := omega) only [hsC_at, updL_n, updL_s, upd_n, upd_s]
                      exact ⟨trivial, n3 g0, ⟨trivial, i1⟩, ⟨trivial, i2⟩, ⟨trivial, i3⟩, ⟨trivial, i4⟩, ⟨trivial, i5⟩, ⟨by rw [hd], hd2, Int32.le_refl _⟩⟩
                    · have := hp p (by omega)
                      unfold PRel at this
                      simp (disch := omega) only [hsC_at, updL_n, upd_n]
                      exact this
                  · intro t htT
                    have := ht t htT
                    unfold TRel at this ⊢
                    simp (disch := omega) only [hsC_ne, hsR_2, upd_n]
                    exact this
                  · intro q hqK
                    have := hq q hqK
                    unfold QRel at this ⊢
                    simp (disch := omega) only [hsC_ne, hsR_2, upd_n]
                    exact this
                  · intro c hc
                    simp (disch := omega) only [hsC_ne, hsR_2, upd_n]
                    exact hs c hc
                  · intro c hc
                    simp (disch := omega) only [hsC_ne, hsR_2, upd_n]
                    exact hk c hc
                  · simp (disch := omega) only [hsC_d, hsR_d, upd_n]
                    exact hd
                  · simp (disch := omega) only [upd_n]
                    exact hd2
                · intro j hj
                  simp (disch := omega) only [upd_n]
                · intro j hj
                  simp (disch := omega) only [updL_n]
              · have k5 : M = 12 := by omega
                simp only [if_neg k4, if_pos k5]
                have k6 : (-4 : Int32) < 0 := by decide
                simp only [if_pos k6]
                refine ⟨-4, _, _, _, rfl, rfl, ?_, fun _ _ => rfl, fun _ _ => rfl, Or.inr (Or.inl rfl)⟩
                rw [hsR_same a1]
                exact h
            · exact ⟨-2, v, w, nm, by simp [g0, g1, g2, g3, g4, g5], by simp [g0, g1, g2, g3, g4, g5], h, fun _ _ => rfl, fun _ _ => rfl, Or.inl rfl⟩
          · exact ⟨-2, v, w, nm, by simp [g0, g1, g2, g3, g4], by simp [g0, g1, g2, g3, g4], h, fun _ _ => rfl, fun _ _ => rfl, Or.inl rfl⟩
        · exact ⟨-2, v, w, nm, by simp [g0, g1, g2, g3], by simp [g0, g1, g2, g3], h, fun _ _ => rfl, fun _ _ => rfl, Or.inl rfl⟩
      · exact ⟨-2, v, w, nm, by simp [g0, g1, g2], by simp [g0, g1, g2], h, fun _ _ => rfl, fun _ _ => rfl, Or.inl rfl⟩
    · exact ⟨-2, v, w, nm, by simp [g0, g1], by simp [g0, g1], h, fun _ _ => rfl, fun _ _ => rfl, Or.inl rfl⟩
  · exact ⟨-2, v, w, nm, by simp [g0], by simp [g0], h, fun _ _ => rfl, fun _ _ => rfl, Or.inl rfl⟩
theorem r_one {keptImages : Int32} {fab : Int64} {fbe : Int64} {bads : Int32} {noes : Int32} {fulls : Int32} {now : HallV} {bl : Int32} {kp : Int32} {ring : Nat → HallV} {imgs : Nat → HallV} {tlen : Int32} {tby : Nat → Int32} {draft : HallV} {rall : Nat → Int32} {nmost : Nat → Int32} {mw : Nat → Int32} {mnames : Nat → Int64} {mkept : Nat → Int32} {mtext : Nat → Int32} {mtexted : Int32} {mundo : Int32} {mabove : Int64} {mbelow : Int64} {mrefused : Nat → Int32} (hR : Rel now bl kp ring imgs tlen tby draft rall nmost keptImages fab fbe bads noes fulls mw mnames mkept mtext mtexted mundo mabove mbelow mrefused) (x1 : Int64) (x3 : Int32) (x4 : Int32) (x5 : Int32) (x6 : Int32) (x7 : Int32) : ∃ (q : Int32 × Int32 × Int32 × Int32 × HallV) (q' : Int32 × (Nat → Int32) × (Nat → Int64) × (Nat → Int32)), f_X10_one bads noes fulls now x1 x3 x4 x5 x6 x7 = some q ∧ f_X11_one mw mnames mrefused x1 x3 x4 x5 x6 x7 = some q' ∧ q.1 = q'.1 ∧ Rel q.2.2.2.2 bl kp ring imgs tlen tby draft rall nmost keptImages fab fbe q.2.1 q.2.2.1 q.2.2.2.1 q'.2.1 q'.2.2.1 mkept mtext mtexted mundo mabove mbelow q'.2.2.2 := by
  obtain ⟨r, v', w', nm', h1, h2, h3, h4, h5, _⟩ := h_one hR.1 (by omega) (by omega) x1 x3 x4 x5 x6 x7
  obtain ⟨b, n, f, m, c1, c2, c3⟩ := ct hR.2.2.2.2.2.2.2.2 r
  refine ⟨(r, b, n, f, v'), (r, w', nm', m), ?_, ?_, rfl, hR.now h3 (fun j hj => h4 j (Or.inr hj)) (fun j hj => h5 j (Or.inr hj)) c3⟩
  · unfold f_X10_one
    simp only [h1, Option.bind_some, c1]
  · unfold f_X11_one
    have h2 : f_X11_addOne mw mnames (0 : Int32) x1 x3 x4 x5 x6 x7 = some (r, w', nm') := h2
    simp only [h2, Option.bind_some, c2]
