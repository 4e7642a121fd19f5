/-! PURE 2: halls -/
theorem lit32 (n : Nat) : (@OfNat.ofNat Int32 n Int32.instOfNat) = nI (@OfNat.ofNat Nat n (instOfNatNat n)) := rfl
theorem i01 {c : Prop} [Decidable c] : ((if c then (1 : Int32) else 0) = 0) = ¬ c := by by_cases h : c <;> simp [h]
theorem i01' {c : Prop} [Decidable c] : ((if c then (1 : Int32) else 0) = 1) = c := by by_cases h : c <;> simp [h]
theorem i01b {c : Prop} [Decidable c] : ((if c then (1 : Int32) else 0) = 0 ∨ (if c then (1 : Int32) else 0) = 1) = True := by by_cases h : c <;> simp [h]
theorem gg {α : Type} {k N : Nat} {a : Option α} (hk : k < N) (hN : N < 2 ^ 31) : (if nI k < 0 ∨ N ≤ (nI k).toNatClampNeg then none else a) = a := if_neg (gi hk hN)
theorem gg' {α : Type} {k N : Nat} {a : Option α} (hk : k < N) (hN : N < 2 ^ 31) : (if nI k < 0 ∨ N ≤ k then none else a) = a := if_neg (by have := gi hk hN; rwa [nI_clamp (by omega)] at this)
theorem addRow_eq {mo rows : Int32} (T m : Nat) (hm : mo = nI m) (hr : rows = nI T) (h : T < 1000) (h2 : m < 1000) : f_X8_addRow mo rows = some (if T < m then (nI T, nI (T + 1)) else (-4, nI T)) := by
  unfold f_X8_addRow f_X8_isFull
  rw [hm, hr]
  by_cases q : T < m
  · rw [if_pos ((nI_ltI (by omega) (by omega)).mpr q)]
    simp only [Option.bind_some, if_pos q, if_true]
    have e1 : nI T + (1 : Int32) = nI (T + 1) := nI_add T 1
    have e2 : nI (T + 1) - (1 : Int32) = nI T := nI_sub (a := T + 1) (b := 1) (by omega)
    rw [e1, e2]
  · rw [if_neg (fun z => q ((nI_ltI (by omega) (by omega)).mp z))]
    simp [q]
theorem HRel.fr {v : HallV} {w w' : Nat → Int32} {nm nm' : Nat → Int64} {o no : Nat} (h : HRel v w nm o no) (hw : ∀ j, o ≤ j → j < o + 120 → w' j = w j) (hn : ∀ j, no ≤ j → j < no + 12 → nm' j = nm j) : HRel v w' nm' o no := by
  obtain ⟨M, T, K, ⟨hM, hT, hK⟩, ⟨a1, a2⟩, ⟨b1, b2⟩, ⟨c1, c2⟩, hrows, hp, ht, hq, hs, hk, hd, hd2⟩ := h
  refine ⟨M, T, K, ⟨hM, hT, hK⟩, ⟨a1, by rw [hw _ (by omega) (by omega)]; exact a2⟩, ⟨b1, by rw [hw _ (by omega) (by omega)]; exact b2⟩, ⟨c1, by rw [hw _ (by omega) (by omega)]; exact c2⟩, hrows, ?_, ?_, ?_, ?_, ?_, by rw [hw _ (by omega) (by omega)]; exact hd, by rw [hw _ (by omega) (by omega)]; exact hd2⟩
  · intro p hpM
    have := hp p hpM
    unfold PRel at this ⊢
    rw [hn _ (by omega) (by omega), hw _ (by omega) (by omega), hw _ (by omega) (by omega), hw _ (by omega) (by omega), hw _ (by omega) (by omega), hw _ (by omega) (by omega), hw _ (by omega) (by omega), hw _ (by omega) (by omega)]
    exact this
  · intro t htT
    have := ht t htT
    unfold TRel at this ⊢
    rw [hw _ (by omega) (by omega), hw _ (by omega) (by omega), hw _ (by omega) (by omega)]
    exact this
  · intro q hqK
    have := hq q hqK
    unfold QRel at this ⊢
    rw [hw _ (by omega) (by omega), hw _ (by omega) (by omega)]
    exact this
  · intro c hc
    rw [hw _ (by omega) (by omega)]
    exact hs c hc
  · intro c hc
    rw [hw _ (by omega) (by omega)]
    exact hk c hc
theorem HRel.cells {v v' : HallV} {w : Nat → Int32} {nm : Nat → Int64} {o no : Nat} (h : HRel v w nm o no) (e : v' = v) : HRel v' w nm o no := by rw [e]; exact h
theorem Rel.now {now bl kp ring imgs tlen tby draft rall nmost keptImages fab fbe bads noes fulls mw mnames mkept mtext mtexted mundo mabove mbelow mrefused} {now' : HallV} {mw' : Nat → Int32} {mnames' : Nat → Int64} {b n f : Int32} {mr : Nat → Int32}
    (h : Rel now bl kp ring imgs tlen tby draft rall nmost keptImages fab fbe bads noes fulls mw mnames mkept mtext mtexted mundo mabove mbelow mrefused)
    (hn : HRel now' mw' mnames' 0 0) (hw : ∀ j, 120 ≤ j → mw' j = mw j) (hm : ∀ j, 12 ≤ j → mnames' j = mnames j) (hs : b = mr 0 ∧ n = mr 1 ∧ f = mr 2) :
    Rel now' bl kp ring imgs tlen tby draft rall nmost keptImages fab fbe b n f mw' mnames' mkept mtext mtexted mundo mabove mbelow mr := by
  obtain ⟨_, ⟨B, K, hB, hK, e1, e2, e3, hr⟩, ⟨bb, hk, hi⟩, h4, h5, h6, h7, h8, _⟩ := h
  refine ⟨hn, ⟨B, K, hB, hK, e1, e2, e3, fun j hj => (hr j hj).fr (fun i h1 h2 => hw i (by omega)) (fun i h1 h2 => hm i (by omega))⟩, ⟨bb, hk, fun i hi2 => ⟨(hi i hi2).1, fun hb => ((hi i hi2).2 hb).fr (fun j h1 h2 => hw j (by omega)) (fun j h1 h2 => hm j (by omega))⟩⟩, h4, h5, h6, h7, h8, hs⟩
theorem upd_s {f : Nat → Int32} {k : Nat} {x : Int32} : upd f k x k = x := pk_us
theorem upd_n {f : Nat → Int32} {k j : Nat} {x : Int32} (h : j ≠ k) : upd f k x j = f j := pk_un h
theorem updL_s {f : Nat → Int64} {k : Nat} {x : Int64} : vp_updL f k x k = x := pk_uLs
theorem updL_n {f : Nat → Int64} {k j : Nat} {x : Int64} (h : j ≠ k) : vp_updL f k x j = f j := pk_uLn h
theorem hsC_C {v : HallV} {t : Nat} {f g : Nat → Int64} : hsC (hsC v t f) t g = hsC v t g := by
  have e : va_up (va_up v.2.1 t f) t g = va_up v.2.1 t g := by
    funext j
    by_cases h : j = t
    · subst h; rw [va_up_self, va_up_self]
    · rw [va_up_ne _ _ h, va_up_ne _ _ h, va_up_ne _ _ h]
  simp only [hsC, e]
theorem hsC_at {v : HallV} {t : Nat} {f : Nat → Int64} : (hsC v t f).2.1 t = f := va_up_self _ _ _
theorem hsC_ne {v : HallV} {t j : Nat} {f : Nat → Int64} (h : j ≠ t) : (hsC v t f).2.1 j = v.2.1 j := va_up_ne _ _ h
theorem hsC_1 {v : HallV} {t : Nat} {f : Nat → Int64} : (hsC v t f).1 = v.1 := rfl
theorem hsC_d {v : HallV} {t : Nat} {f : Nat → Int64} : (hsC v t f).2.2 = v.2.2 := rfl
theorem hsR_at {v : HallV} {t : Nat} {r : Int32} : (hsR v t r).1 t = r := va_up_self _ _ _
theorem hsR_same {v : HallV} {t : Nat} {r : Int32} (h : v.1 t = r) : hsR v t r = v := by
  have e : va_up v.1 t r = v.1 := by
    funext j
    by_cases q : j = t
    · subst q; rw [va_up_self, h]
    · rw [va_up_ne _ _ q]
  simp only [hsR, e]
theorem hsR_ne {v : HallV} {t j : Nat} {r : Int32} (h : j ≠ t) : (hsR v t r).1 j = v.1 j := va_up_ne _ _ h
theorem hsR_2 {v : HallV} {t : Nat} {r : Int32} : (hsR v t r).2.1 = v.2.1 := rfl
theorem hsR_d {v : HallV} {t : Nat} {r : Int32} : (hsR v t r).2.2 = v.2.2 := rfl
theorem hsD_1 {v : HallV} {d : Int32} : (hsD v d).1 = v.1 := rfl
theorem hsD_2 {v : HallV} {d : Int32} : (hsD v d).2.1 = v.2.1 := rfl
theorem hsD_d {v : HallV} {d : Int32} : (hsD v d).2.2 = d := rfl
set_option maxHeartbeats 1000000 in
theorem h_try {v : HallV} {w : Nat → Int32} {nm : Nat → Int64} {o no : Nat} (h : HRel v w nm o no) (ho : o + 120 ≤ 960) (x1 x2 x3 : Int32) :
    ∃ (r : Int32) (v' : HallV) (w' : Nat → Int32), f_X1_tellTry v x1 x2 x3 = some (r, v') ∧ f_X11_oneTry w (nI o) x1 x2 x3 = some (r, w') ∧ HRel v' w' nm o no ∧ (∀ j, (j < o ∨ o + 120 ≤ j) → w' j = w j) ∧ (r = -2 ∨ r = -4 ∨ ∃ k, r = nI k ∧ k < 12) := by
  obtain ⟨M, T, K, ⟨hM, hT, hK⟩, ⟨a1, a2⟩, ⟨b1, b2⟩, ⟨c1, c2⟩, hrows, hp, ht, hq, hs, hk, hd, hd2⟩ := id h
  unfold f_X1_tellTry f_X11_oneTry
  simp only [within_eq, in32 (la := 0) (lb := 5) 0 5 (by decide) (by decide), in32 (la := 1) (lb := 20) 1 20 (by decide) (by decide), Option.bind_some, i01, addRow_eq (mo := 5) T 5 rfl b1 (by omega) (by omega)]
  by_cases g1 : (0 ≤ x1 ∧ x1 ≤ 5)
  · by_cases g2 : (1 ≤ x2 ∧ x2 ≤ 20)
    · by_cases g3 : (1 ≤ x3 ∧ x3 ≤ 20)
      · have e73 : nI o + (73 : Int32) = nI (o + 73) := nI_add o 73
        have e74 : nI o + (74 : Int32) = nI (o + 74) := nI_add o 74
        have e79 : nI o + (79 : Int32) = nI (o + 79) := nI_add o 79
        have e84 : nI o + (84 : Int32) = nI (o + 84) := nI_add o 84
        have eT : nI T + (1 : Int32) = nI (T + 1) := nI_add T 1
        have t5 : nI T = (5 : Int32) ↔ T = 5 := nI_eq (a := T) (b := 5) (by omega) (by omega)
        simp (disch := omega) only [g1, g2, g3, not_true, if_false, and_self, e73, e74, e79, e84, b2, nI_add, gg, gg', nI_clamp, upd_n, eT, t5]
        by_cases g4 : T < 5
        · have g5 : ¬ T = 5 := by omega
          simp only [if_pos g4, if_neg (nI_pos (n := T) (by omega)), if_neg g5, set_at (wd := 3) (N := 15) (x := nI T) (y := 0) T 0 3 rfl rfl rfl (by omega) (by decide), set_at (wd := 3) (N := 15) (x := nI T) (y := 1) T 1 3 rfl rfl rfl (by omega) (by decide), set_at (wd := 3) (N := 15) (x := nI T) (y := 2) T 2 3 rfl rfl rfl (by omega) (by decide), Option.bind_some, hsC_C, hsC_at, hsR_2]
          refine ⟨_, _, _, rfl, rfl, ?_, ?_, Or.inr (Or.inr ⟨T, rfl, by omega⟩)⟩
          · refine ⟨M, T + 1, K, ⟨hM, by omega, hK⟩, ⟨?_, ?_⟩, ⟨?_, ?_⟩, ⟨?_, ?_⟩, ⟨?_, ?_⟩, ?_, ?_, ?_, ?_, ?_, ?_, ?_⟩
            · simp (disch := omega) only [hsC_1, hsR_ne, a1]
            · simp (disch := omega) only [upd_n, a2]
            · simp only [hsC_1, hsR_at]
            · rw [upd_s]
            · simp (disch := omega) only [hsC_1, hsR_ne, c1]
            · simp (disch := omega) only [upd_n, c2]
            · simp (disch := omega) only [hsC_1, hsR_ne, hrows.1]
            · simp (disch := omega) only [hsC_1, hsR_ne, hrows.2]
            · intro p hpM
              have := hp p hpM
              unfold PRel at this ⊢
              simp (disch := omega) only [hsC_ne, hsR_2, upd_n]
              exact this
            · intro t htT
              unfold TRel
              by_cases q : t = T
              · subst q
                have i1 := (inN_iff (x := x1) (a := 0) (b := 5) (by decide) (by decide)).mpr g1
                have i2 := (inN_iff (x := x2) (a := 1) (b := 20) (by decide) (by decide)).mpr g2
                have i3 := (inN_iff (x := x3) (a := 1) (b := 20) (by decide) (by decide)).mpr g3
                simp (disch := omega) only [hsC_at, updL_n, updL_s, upd_n, upd_s]
                exact ⟨⟨trivial, i1⟩, ⟨trivial, i2⟩, ⟨trivial, i3⟩⟩
              · have := ht t (by omega)
                unfold TRel at this
                simp (disch := omega) only [hsC_at, updL_n, upd_n]
                exact this
            · intro q hqK
              have := hq q hqK
              unfold QRel at this ⊢
              simp (disch := omega) only [hsC_ne, hsR_2, upd_n]
              exact this
            · intro c hc
              simp (disch := omega) only [hsC_ne, hsR_2, upd_n]
              exact hs c hc
            · intro c hc
              simp (disch := omega) only [hsC_ne, hsR_2, upd_n]
              exact hk c hc
            · simp (disch := omega) only [hsC_d, hsR_d, upd_n]
              exact hd
            · simp (disch := omega) only [upd_n]
              exact hd2
          · intro j hj
            simp (disch := omega) only [upd_n]
        · have g5 : T = 5 := by omega
          simp only [if_neg g4, if_pos g5]
          have g6 : (-4 : Int32) < 0 := by decide
          simp only [if_pos g6]
          refine ⟨-4, _, _, rfl, rfl, ?_, fun _ _ => rfl, Or.inr (Or.inl rfl)⟩
          rw [hsR_same b1]
          exact h
      · exact ⟨-2, v, w, by simp [g1, g2, g3], by simp [g1, g2, g3], h, fun _ _ => rfl, Or.inl rfl⟩
    · exact ⟨-2, v, w, by simp [g1, g2], by simp [g1, g2], h, fun _ _ => rfl, Or.inl rfl⟩
  · exact ⟨-2, v, w, by simp [g1], by simp [g1], h, fun _ _ => rfl, Or.inl rfl⟩
set_option maxHeartbeats 1000000 in
theorem h_question {v : HallV} {w : Nat → Int32} {nm : Nat → Int64} {o no : Nat} (h : HRel v w nm o no) (ho : o + 120 ≤ 960) (x1 x2 : Int32) :
    ∃ (r : Int32) (v' : HallV) (w' : Nat → Int32), f_X1_tellQuestion v x1 x2 = some (r, v') ∧ f_X11_oneQuestion w (nI o) x1 x2 = some (r, w') ∧ HRel v' w' nm o no ∧ (∀ j, (j < o ∨ o + 120 ≤ j) → w' j = w j) ∧ (r = -2 ∨ r = -4 ∨ ∃ k, r = nI k ∧ k < 12) := by
  obtain ⟨M, T, K, ⟨hM, hT, hK⟩, ⟨a1, a2⟩, ⟨b1, b2⟩, ⟨c1, c2⟩, hrows, hp, ht, hq, hs, hk, hd, hd2⟩ := id h
  unfold f_X1_tellQuestion f_X11_oneQuestion f_X1_isPart
  simp only [within_eq, in32 (la := 0) (lb := 4) 0 4 (by decide) (by decide), in32 (la := 0) (lb := 9) 0 9 (by decide) (by decide), Option.bind_some, i01, i01b, if_true, addRow_eq (mo := 6) K 6 rfl c1 (by omega) (by omega)]
  by_cases g1 : (0 ≤ x1 ∧ x1 ≤ 4)
  · by_cases g2 : (0 ≤ x2 ∧ x2 ≤ 9)
    · have e89 : nI o + (89 : Int32) = nI (o + 89) := nI_add o 89
      have e90 : nI o + (90 : Int32) = nI (o + 90) := nI_add o 90
      have e96 : nI o + (96 : Int32) = nI (o + 96) := nI_add o 96
      have eK : nI K + (1 : Int32) = nI (K + 1) := nI_add K 1
      have t6 : nI K = (6 : Int32) ↔ K = 6 := nI_eq (a := K) (b := 6) (by omega) (by omega)
      simp (disch := omega) only [g1, g2, not_true, if_false, and_self, e89, e90, e96, c2, nI_add, gg, gg', nI_clamp, upd_n, eK, t6]
      by_cases g4 : K < 6
      · have g5 : ¬ K = 6 := by omega
        simp only [if_pos g4, if_neg (nI_pos (n := K) (by omega)), if_neg g5, set_at (wd := 2) (N := 12) (x := nI K) (y := 0) K 0 2 rfl rfl rfl (by omega) (by decide), set_at (wd := 2) (N := 12) (x := nI K) (y := 1) K 1 2 rfl rfl rfl (by omega) (by decide), Option.bind_some, hsC_C, hsC_at, hsR_2]
        refine ⟨_, _, _, rfl, rfl, ?_, ?_, Or.inr (Or.inr ⟨K, rfl, by omega⟩)⟩
        · refine ⟨M, T, K + 1, ⟨hM, hT, by omega⟩, ⟨?_, ?_⟩, ⟨?_, ?_⟩, ⟨?_, ?_⟩, ⟨?_, ?_⟩, ?_, ?_, ?_, ?_, ?_, ?_, ?_⟩
          · simp (disch := omega) only [hsC_1, hsR_ne, a1]
          · simp (disch := omega) only [upd_n, a2]
          · simp (disch := omega) only [hsC_1, hsR_ne, b1]
          · simp (disch := omega) only [upd_n, b2]
          · simp only [hsC_1, hsR_at]
          · rw [upd_s]
          · simp (disch := omega) only [hsC_1, hsR_ne, hrows.1]
          · simp (disch := omega) only [hsC_1, hsR_ne, hrows.2]
          · intro p hpM
            have := hp p hpM
            unfold PRel at this ⊢
            simp (disch := omega) only [hsC_ne, hsR_2, upd_n]
            exact this
          · intro t htT
            have := ht t htT
            unfold TRel at this ⊢
            simp (disch := omega) only [hsC_ne, hsR_2, upd_n]
            exact this
          · intro q hqK
            unfold QRel
            by_cases e : q = K
            · subst e
              have i1 := (inN_iff (x := x1) (a := 0) (b := 4) (by decide) (by decide)).mpr g1
              have i2 := (inN_iff (x := x2) (a := 0) (b := 9) (by decide) (by decide)).mpr g2
              simp (disch := omega) only [hsC_at, updL_n, updL_s, upd_n, upd_s]
              exact ⟨⟨trivial, i1⟩, ⟨trivial, i2⟩⟩
            · have := hq q (by omega)
              unfold QRel at this
              simp (disch := omega) only [hsC_at, updL_n, upd_n]
              exact this
          · intro c hc
            simp (disch := omega) only [hsC_ne, hsR_2, upd_n]
            exact hs c hc
          · intro c hc
            simp (disch := omega) only [hsC_ne, hsR_2, upd_n]
            exact hk c hc
          · simp (disch := omega) only [hsC_d, hsR_d, upd_n]
            exact hd
          · simp (disch := omega) only [upd_n]
            exact hd2
        · intro j hj
          simp (disch := omega) only [upd_n]
      · have g5 : K = 6 := by omega
        simp only [if_neg g4, if_pos g5]
        have g6 : (-4 : Int32) < 0 := by decide
        simp only [if_pos g6]
        refine ⟨-4, _, _, rfl, rfl, ?_, fun _ _ => rfl, Or.inr (Or.inl rfl)⟩
        rw [hsR_same c1]
        exact h
    · exact ⟨-2, v, w, by simp [g1, g2], by simp [g1, g2], h, fun _ _ => rfl, Or.inl rfl⟩
  · exact ⟨-2, v, w, by simp [g1], by simp [g1], h, fun _ _ => rfl, Or.inl rfl⟩
theorem st1 : ∀ c, c < 8 → stF 1 c = nI (sLo c) := by decide
theorem st2 : ∀ c, c < 8 → stF 2 c = nI (sHi c) := by decide
theorem st3 : ∀ c, c < 5 → stF 3 c = nI (kLo c) := by decide
theorem st4 : ∀ c, c < 5 → stF 4 c = nI (kHi c) := by decide
theorem tset {v : HallV} {c : Nat} (hc : c < 8) (x2 : Int32) : f_X1_tellSetting v (nI c) x2 = if nI (sLo c) ≤ x2 ∧ x2 ≤ nI (sHi c) then some ((v.2.1 3 c).toInt32, hsC v 3 (vp_updL (v.2.1 3) c x2.toInt64)) else some (-2, v) := by
  unfold f_X1_tellSetting f_X1_setting
  have g1 : (0 : Int32) ≤ nI c ∧ nI c ≤ 7 := ⟨nI_pos' (by omega), nI_le (a := c) (b := 7) (by omega) (by omega)⟩
  simp only [within_eq, Option.bind_some, i01, g1, and_self, not_true, if_false, ats_eq (i := 1) (k := c) (x := nI c) rfl hc (by decide), ats_eq (i := 2) (k := c) (x := nI c) rfl hc (by decide), st1 c hc, st2 c hc, num_at (wd := 8) (N := 8) (x := 0) (y := nI c) 0 c 8 rfl rfl rfl (by omega) (by decide), set_at (wd := 8) (N := 8) (x := 0) (y := nI c) 0 c 8 rfl rfl rfl (by omega) (by decide), Nat.zero_mul, Nat.zero_add]
  by_cases g : nI (sLo c) ≤ x2 ∧ x2 ≤ nI (sHi c)
  · simp only [g, and_self, not_true, if_false, if_true]
  · simp only [g, not_false_eq_true, if_true, if_false]
theorem mset {w : Nat → Int32} {o c : Nat} (ho : o + 120 ≤ 960) (hc : c < 8) (x2 : Int32) : f_X11_set w (nI o) (nI c) x2 = if nI (sLo c) ≤ x2 ∧ x2 ≤ nI (sHi c) then some (w (o + 102 + c), upd w (o + 102 + c) x2) else some (-2, w) := by
  unfold f_X11_set f_X11_set_B80 f_X11_set_B81
  have e : nI o + (102 : Int32) = nI (o + 102) := nI_add o 102
  have c0 : nI c = (0 : Int32) ↔ c = 0 := nI_eq (a := c) (b := 0) (by omega) (by omega)
  have c1 : nI c = (1 : Int32) ↔ c = 1 := nI_eq (a := c) (b := 1) (by omega) (by omega)
  have c2 : nI c = (2 : Int32) ↔ c = 2 := nI_eq (a := c) (b := 2) (by omega) (by omega)
  have one : ¬ (1 : Int32) = 0 := by decide
  simp (disch := omega) only [c0, c1, c2, in32 (la := 0) (lb := 5) 0 5 (by decide) (by decide), in32 (la := 1) (lb := 99) 1 99 (by decide) (by decide), in32 (la := 0) (lb := 60) 0 60 (by decide) (by decide), in32 (la := 0) (lb := 20) 0 20 (by decide) (by decide), in32 (la := 3) (lb := 7) 3 7 (by decide) (by decide), Option.bind_some, i01, e, nI_add, gg, gg', nI_clamp, if_true, one, if_false]
  have g1 : (3 : Int32) ≤ nI c ∧ nI c ≤ 7 ↔ 3 ≤ c := ⟨fun z => (nI_leI (a := 3) (b := c) (by omega) (by omega)).mp z.1, fun z => ⟨nI_le (a := 3) (b := c) z (by omega), nI_le (a := c) (b := 7) (by omega) (by omega)⟩⟩
  simp only [g1]
  by_cases h0 : c = 0
  · subst h0
    simp only [if_true, ite_not]; rfl
  · by_cases h1 : c = 1
    · subst h1
      simp only [if_true, if_false, ite_not, h0]; rfl
    · by_cases h2 : c = 2
      · subst h2
        simp only [if_true, if_false, ite_not, h0, h1]; rfl
      · have h3 : 3 ≤ c := by omega
        simp only [h0, h1, h2, h3, if_true, if_false, ite_not, not_true]
        have l : sLo c = 0 := by simp [sLo, h1]
        have hh : sHi c = 20 := by simp [sHi, h0, h1, h2]
        rw [l, hh]; rfl
theorem h_set {v : HallV} {w : Nat → Int32} {nm : Nat → Int64} {o no : Nat} (h : HRel v w nm o no) (ho : o + 120 ≤ 960) (x1 x2 : Int32) :
    ∃ (r : Int32) (v' : HallV) (w' : Nat → Int32), f_X1_tellSetting v x1 x2 = some (r, v') ∧ f_X11_set w (nI o) x1 x2 = some (r, w') ∧ HRel v' w' nm o no ∧ (∀ j, (j < o ∨ o + 120 ≤ j) → w' j = w j) ∧ (r = -2 ∨ r = -4 ∨ ∃ k, r = nI k ∧ k < 100) := by
  obtain ⟨M, T, K, ⟨hM, hT, hK⟩, ⟨a1, a2⟩, ⟨b1, b2⟩, ⟨c1, c2⟩, hrows, hp, ht, hq, hs, hk, hd, hd2⟩ := id h
  by_cases g1 : (0 : Int32) ≤ x1 ∧ x1 ≤ 7
  · obtain ⟨c, rfl, _, hc⟩ := (inN_iff (x := x1) (a := 0) (b := 7) (by decide) (by decide)).mpr g1
    rw [tset (by omega), mset ho (by omega)]
    by_cases g : nI (sLo c) ≤ x2 ∧ x2 ≤ nI (sHi c)
    · simp only [g, and_self, if_true]
      have hc2 := hs c (by omega)
      have ix2 : inN x2 (sLo c) (sHi c) := (inN_iff (by unfold sHi; split <;> (try split) <;> (try split) <;> decide) (by unfold sHi sLo; split <;> (try split) <;> (try split) <;> (try split) <;> omega)).mpr g
      refine ⟨w (o + 102 + c), _, _, by rw [hc2.1, i64_i32], rfl, ?_, fun j hj => by simp (disch := omega) only [upd_n], ?_⟩
      · refine ⟨M, T, K, ⟨hM, hT, hK⟩, ⟨a1, ?_⟩, ⟨b1, ?_⟩, ⟨c1, ?_⟩, hrows, ?_, ?_, ?_, ?_, ?_, ?_, ?_⟩
        · simp (disch := omega) only [upd_n, a2]
        · simp (disch := omega) only [upd_n, b2]
        · simp (disch := omega) only [upd_n, c2]
        · intro p hpM
          have := hp p hpM
          unfold PRel at this ⊢
          simp (disch := omega) only [hsC_ne, upd_n]
          exact this
        · intro t htT
          have := ht t htT
          unfold TRel at this ⊢
          simp (disch := omega) only [hsC_ne, upd_n]
          exact this
        · intro q hqK
          have := hq q hqK
          unfold QRel at this ⊢
          simp (disch := omega) only [hsC_ne, upd_n]
          exact this
        · intro d hd8
          by_cases e : d = c
          · subst e
            simp only [hsC_at, updL_s, upd_s]
            exact ⟨trivial, ix2⟩
          · simp (disch := omega) only [hsC_at, updL_n, upd_n]
            exact hs d hd8
        · intro d hd5
          simp (disch := omega) only [hsC_ne, upd_n]
          exact hk d hd5
        · simp (disch := omega) only [hsC_d, upd_n]
          exact hd
        · simp (disch := omega) only [upd_n]
          exact hd2
      · obtain ⟨k, hk1, _, hk2⟩ := hc2.2
        exact Or.inr (Or.inr ⟨k, hk1, by unfold sHi at hk2; split at hk2 <;> (try split at hk2) <;> (try split at hk2) <;> omega⟩)
    · simp only [g, if_false]
      exact ⟨-2, v, w, rfl, rfl, h, fun _ _ => rfl, Or.inl rfl⟩
  · refine ⟨-2, v, w, ?_, ?_, h, fun _ _ => rfl, Or.inl rfl⟩
    · unfold f_X1_tellSetting
      simp only [within_eq, Option.bind_some, i01, g1, not_false_eq_true, if_true]
    · unfold f_X11_set f_X11_set_B80 f_X11_set_B81
      have n0 : ¬ x1 = 0 := fun z => g1 (by rw [z]; decide)
      have n1 : ¬ x1 = 1 := fun z => g1 (by rw [z]; decide)
      have n2 : ¬ x1 = 2 := fun z => g1 (by rw [z]; decide)
      have n3 : ¬ ((3 : Int32) ≤ x1 ∧ x1 ≤ 7) := fun z => g1 ⟨Int32.le_trans (by decide) z.1, z.2⟩
      simp only [n0, n1, n2, if_false, in32 (la := 3) (lb := 7) 3 7 (by decide) (by decide), Option.bind_some, i01, n3, not_false_eq_true, if_true]
