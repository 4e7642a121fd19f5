def f_X1_isPart  (x0 : Int32) : Option (Int32) := Option.bind (f_X10_within x0 (0 : Int32) (4 : Int32)) (fun q3 => if q3 = 0 ∨ q3 = 1 then (some q3) else none)
set_option maxHeartbeats 4000000 in
set_option maxRecDepth 100000 in
theorem c_X1_isPart {D : va_G} {cs : Nat → ClassId} {sa : Nat → Nat} {n : Nat} {ad : Nat → Nat} {A : Nat → Prop} (l : Launch) {en : Nat → va_E}   {x0 : Int32}  {q : Int32}   (h : f_X1_isPart x0 = some q) : Met l yX1_isPart wsX1_isPart { frames := 1, cells := 0, slots := 0, locals := 22 } (va_Pc [.int x0] (Wd D cs sa n ad A en)) (va_Qi (fun r u => q = r ∧ en = u) (Wd D cs sa n ad A) A) 0 0 A := by
  refine G_startI cX1_isPart 1 [(0, .int x0)] (by decide) rfl (Nat.le_of_ble_eq_true rfl) rfl ?_
  intro p e s m args below meth c Q hC hnm Kr
  have zi_X10_within : Cond.initialized RX10 ∈ wsX1_isPart := by decide +kernel
  have zs_X10_within : Cond.static yX10_within ∈ wsX1_isPart := by decide +kernel
  unfold f_X1_isPart at h
  refine G_iload_n hC 0 0 rfl rfl dX1_isPart_0 ?_
  refine G_iconst hC (v := 0) (by decide) dX1_isPart_1 ?_
  refine G_iconst hC (v := 4) (by decide) dX1_isPart_2 ?_
  obtain ⟨q3, h3, h⟩ := bnd h
  refine G_cNi (st := []) hC _ (c_X10_within  l  h3) ⟨va_cnB 3 hC.hts gX1_isPart_X10_within_n78 rfl rfl rfl (hC.2.2.2.1 ("TongueTip$Hall", 78, yX10_within, "TongueTip") (List.mem_of_getElem? (i := 1) rfl)) (hC.hts _ zi_X10_within) (by decide +kernel) ⟨Nat.le_of_ble_eq_true rfl, Nat.le_of_ble_eq_true rfl⟩, hC.hts _ zs_X10_within, trivial⟩ rfl (Nat.le_of_ble_eq_true rfl) (Nat.zero_le _) (Nat.zero_le _) rfl dX1_isPart_3 (fun r3 enx hw => ?_)
  obtain ⟨rfl, rfl⟩ := hw
  obtain ⟨g6, h⟩ := asr h
  have h := Option.some.inj h
  subst h
  exact Kr _ _ _ _ (nar_b g6) ⟨rfl, rfl⟩ dX1_isPart_6
def f_X1_isPartValue  (x0 : Int32) (x1 : Int32) : Option (Int32) := Option.bind (f_X10_at_s 3 x0) (fun q5 => Option.bind (f_X10_at_s 4 x0) (fun q12 => Option.bind (f_X10_within x1 q5 q12) (fun q15 => if q15 = 0 ∨ q15 = 1 then (some q15) else none)))
set_option maxHeartbeats 4000000 in
set_option maxRecDepth 100000 in
theorem c_X1_isPartValue {D : va_G} {cs : Nat → ClassId} {sa : Nat → Nat} {n : Nat} {ad : Nat → Nat} {A : Nat → Prop} (l : Launch) {en : Nat → va_E}   {x0 : Int32} {x1 : Int32}  {q : Int32}   (h : f_X1_isPartValue x0 x1 = some q) : Met l yX1_isPartValue wsX1_isPartValue { frames := 1, cells := 0, slots := 0, locals := 22 } (va_Pc [.int x0, .int x1] (Wd D cs sa n ad A en)) (va_Qi (fun r u => q = r ∧ en = u) (Wd D cs sa n ad A) A) 0 0 A := by
  refine G_startI cX1_isPartValue 2 [(0, .int x0), (1, .int x1)] (by decide) rfl (Nat.le_of_ble_eq_true rfl) rfl ?_
  intro p e s m args below meth c Q hC hnm Kr
  have m124 : Cond.fieldLink RX1 124 "TongueTip$Hall" "PART_LEAST" "[I" ∈ wsX1_isPartValue := by decide +kernel
  have m127 : Cond.fieldLink RX1 127 "TongueTip$Hall" "PART_MOST" "[I" ∈ wsX1_isPartValue := by decide +kernel
  have zi_X10_at : Cond.initialized RX10 ∈ wsX1_isPartValue := by decide +kernel
  have zi_X10_within : Cond.initialized RX10 ∈ wsX1_isPartValue := by decide +kernel
  have zs_X10_at : Cond.static yX10_at ∈ wsX1_isPartValue := by decide +kernel
  have zs_X10_within : Cond.static yX10_within ∈ wsX1_isPartValue := by decide +kernel
  unfold f_X1_isPartValue at h
  refine G_iload_n hC 1 1 rfl rfl dX1_isPartValue_0 ?_
  refine G_gets hC 3 (by decide) m124 dX1_isPartValue_1 ?_
  refine G_iload_n hC 0 0 rfl rfl dX1_isPartValue_4 ?_
  obtain ⟨q5, h5, h⟩ := bnd h
  refine G_cNi (st := [.int x1]) hC _ (c_X10_at_s (ist := 3) l (by omega) h5) ⟨va_cnB 2 hC.hts gX1_isPartValue_X10_at_n50 rfl rfl rfl (hC.2.2.2.1 ("TongueTip$Hall", 50, yX10_at, "TongueTip") (List.mem_of_getElem? (i := 0) rfl)) (hC.hts _ zi_X10_at) (by decide +kernel) ⟨Nat.le_of_ble_eq_true rfl, Nat.le_of_ble_eq_true rfl⟩, hC.hts _ zs_X10_at, trivial⟩ rfl (Nat.le_of_ble_eq_true rfl) (Nat.zero_le _) (Nat.zero_le _) rfl dX1_isPartValue_5 (fun r5 enx hw => ?_)
  obtain ⟨rfl, rfl⟩ := hw
  refine G_gets hC 4 (by decide) m127 dX1_isPartValue_8 ?_
  refine G_iload_n hC 0 0 rfl rfl dX1_isPartValue_11 ?_
  obtain ⟨q12, h12, h⟩ := bnd h
  refine G_cNi (st := [.int q5, .int x1]) hC _ (c_X10_at_s (ist := 4) l (by omega) h12) ⟨va_cnB 2 hC.hts gX1_isPartValue_X10_at_n50 rfl rfl rfl (hC.2.2.2.1 ("TongueTip$Hall", 50, yX10_at, "TongueTip") (List.mem_of_getElem? (i := 0) rfl)) (hC.hts _ zi_X10_at) (by decide +kernel) ⟨Nat.le_of_ble_eq_true rfl, Nat.le_of_ble_eq_true rfl⟩, hC.hts _ zs_X10_at, trivial⟩ rfl (Nat.le_of_ble_eq_true rfl) (Nat.zero_le _) (Nat.zero_le _) rfl dX1_isPartValue_12 (fun r12 enx hw => ?_)
  obtain ⟨rfl, rfl⟩ := hw
  obtain ⟨q15, h15, h⟩ := bnd h
  refine G_cNi (st := []) hC _ (c_X10_within  l  h15) ⟨va_cnB 3 hC.hts gX1_isPartValue_X10_within_n78 rfl rfl rfl (hC.2.2.2.1 ("TongueTip$Hall", 78, yX10_within, "TongueTip") (List.mem_of_getElem? (i := 1) rfl)) (hC.hts _ zi_X10_within) (by decide +kernel) ⟨Nat.le_of_ble_eq_true rfl, Nat.le_of_ble_eq_true rfl⟩, hC.hts _ zs_X10_within, trivial⟩ rfl (Nat.le_of_ble_eq_true rfl) (Nat.zero_le _) (Nat.zero_le _) rfl dX1_isPartValue_15 (fun r15 enx hw => ?_)
  obtain ⟨rfl, rfl⟩ := hw
  obtain ⟨g18, h⟩ := asr h
  have h := Option.some.inj h
  subst h
  exact Kr _ _ _ _ (nar_b g18) ⟨rfl, rfl⟩ dX1_isPartValue_18
def f_X1_begin_L59   : Nat → HallV → Int32 → Option (HallV)
  | 0, _, _ => none
  | fu + 1, sg, x1 => if (5 : Int32) ≤ x1 then (some sg) else (Option.bind (f_X8_set (5 : Int32) 5 (sg.2.1 4) (0 : Int32) x1 (-1 : Int64)) (fun q73 => f_X1_begin_L59 fu (hsC sg 4 q73) (x1 + (1 : Int32))))
def f_X1_begin_L28   : Nat → HallV → Int32 → Option (HallV)
  | 0, _, _ => none
  | fu + 1, sg, x1 => if (8 : Int32) ≤ x1 then (f_X1_begin_L59 FU sg (0 : Int32)) else (Option.bind (f_X10_at_s 0 x1) (fun q44 => Option.bind (f_X8_set (8 : Int32) 8 (sg.2.1 3) (0 : Int32) x1 q44.toInt64) (fun q48 => f_X1_begin_L28 fu (hsC sg 3 q48) (x1 + (1 : Int32)))))
def f_X1_begin (sg : HallV)  : Option (HallV) := Option.bind (f_X8_forgetAll ((hsD sg (0 : Int32)).1 0)) (fun q9 => Option.bind (f_X8_forgetAll ((hsR (hsD sg (0 : Int32)) 0 q9).1 1)) (fun q16 => Option.bind (f_X8_forgetAll ((hsR (hsR (hsD sg (0 : Int32)) 0 q9) 1 q16).1 2)) (fun q23 => f_X1_begin_L28 FU (hsR (hsR (hsR (hsD sg (0 : Int32)) 0 q9) 1 q16) 2 q23) (0 : Int32))))
set_option maxHeartbeats 4000000 in
set_option maxRecDepth 100000 in
theorem c_X1_begin {D : va_G} {cs : Nat → ClassId} {sa : Nat → Nat} {n : Nat} {ad : Nat → Nat} {A : Nat → Prop} (l : Launch) {en : Nat → va_E} {kk : Nat} {sg : HallV}   {q : HallV} (hkn : kk + 11 ≤ n) (H_sg : Hall cs ad en kk sg) (h : f_X1_begin sg = some q) : Met l yX1_begin wsX1_begin { frames := 1, cells := 0, slots := 0, locals := 25 } (va_Pc [.ref (ad kk)] (Wd D cs sa n ad A en)) (va_Qv (fun u => Hall cs ad u kk q ∧ (∀ j, (j < kk ∨ kk + 11 ≤ j) → u j = en j)) (Wd D cs sa n ad A) A) 0 0 A := by
  refine G_startV cX1_begin 2 [(0, .ref (ad kk))] (by decide) rfl (Nat.le_of_ble_eq_true rfl) rfl ?_
  intro p e s m args below meth c Q hC hnm Kr
  have inX1 : ∀ w ∈ u_ws RX1 TX1 6, w ∈ wsX1_begin := by decide +kernel
  have k58 : Cond.constantLong RX1 58 (-1) ∈ wsX1_begin := by decide +kernel
  have m16 : Cond.fieldLink RX1 16 "TongueTip$Hall" "people" "LTongueTip$Table;" ∈ wsX1_begin := by decide +kernel
  have m20 : Cond.fieldLink RX1 20 "TongueTip$Hall" "tries" "LTongueTip$Table;" ∈ wsX1_begin := by decide +kernel
  have m23 : Cond.fieldLink RX1 23 "TongueTip$Hall" "questions" "LTongueTip$Table;" ∈ wsX1_begin := by decide +kernel
  have m26 : Cond.fieldLink RX1 26 "TongueTip$Hall" "settings" "LTongueTip$Table;" ∈ wsX1_begin := by decide +kernel
  have m29 : Cond.fieldLink RX1 29 "TongueTip$Hall" "known" "LTongueTip$Table;" ∈ wsX1_begin := by decide +kernel
  have m39 : Cond.fieldLink RX1 39 "TongueTip$Hall" "day" "I" ∈ wsX1_begin := by decide +kernel
  have m46 : Cond.fieldLink RX1 46 "TongueTip$Hall" "SETTING_FIRST" "[I" ∈ wsX1_begin := by decide +kernel
  have zi_X10_at : Cond.initialized RX10 ∈ wsX1_begin := by decide +kernel
  have zs_X10_at : Cond.static yX10_at ∈ wsX1_begin := by decide +kernel
  have hL59 : ∀ (fu59 : Nat), ∀ (en1 : Nat → va_E) (sg : HallV) (x1 : Int32), Hall cs ad en1 kk sg → (∀ j, (j < kk ∨ kk + 11 ≤ j) → en1 j = en j) → f_X1_begin_L59 fu59 sg x1 = some q → G p l e ({ frames := 1, cells := 0, slots := 0, locals := 25 } : Room) s m args below meth c D n ad A 2 0 0 Q en1 59 [(0, .ref (ad kk)), (1, .int x1)] [] := by
    intro fu59
    induction fu59 with
    | zero =>
      intro en1 sg x1 H_sg hfr h
      rw [f_X1_begin_L59] at h
      cases h
    | succ fu59 ih59 =>
      intro en1 sg x1 H_sg hfr h
      rw [f_X1_begin_L59] at h
      refine G_iload_n hC 1 1 rfl rfl dX1_begin_59 ?_
      refine G_iconst hC (v := 5) (by decide) dX1_begin_60 ?_
      refine G_icmp_ge hC 82 dX1_begin_61 (by decide) (fun c61 => ?_) (fun c61 => ?_)
      · have h := ifp c61 h
        have h := Option.some.inj h
        subst h
        exact Kr _ _ _ ⟨H_sg, hfr⟩ dX1_begin_82
      have h := ifn c61 h
      refine G_aload_n hC 0 0 rfl rfl dX1_begin_64 ?_
      refine G_get hC inX1 kk (by omega) (v := .ref (ad (kk + 9))) (H_sg 0 (by decide)) rfl 4 (by decide) m29 rfl rfl dX1_begin_65 ?_
      refine G_iconst hC (v := 0) (by decide) dX1_begin_68 ?_
      refine G_iload_n hC 1 1 rfl rfl dX1_begin_69 ?_
      refine G_ldc2 hC (v := (-1)) k58 dX1_begin_70 ?_
      obtain ⟨q73, h73, h⟩ := bnd h
      refine G_cVv (st := []) hC _ (kk + 9) (by omega) (c_X8_set (pp := kk + 9) l (by omega) (H_sg 9 (by decide)) (H_sg 10 (by decide)) h73) (cwV 3 hC.hts gX1_begin_X8_set rfl rfl rfl (by decide +kernel) ⟨Nat.le_of_ble_eq_true rfl, Nat.le_of_ble_eq_true rfl⟩) (H_sg 9 (by decide)) rfl rfl (Nat.le_of_ble_eq_true rfl) (Nat.zero_le _) (Nat.zero_le _) rfl dX1_begin_73 (fun en2 hw => ?_)
      obtain ⟨t_Tc, fr⟩ := hw
      have H_sg : Hall cs ad en2 kk (hsC sg 4 q73) := H_sg.upC4 t_Tc fr
      have hfr : ∀ j, (j < kk ∨ kk + 11 ≤ j) → en2 j = en j := fun j o0 => (fr j (by omega)).trans (hfr j o0)
      refine G_iinc hC 1 1 [(1, .int (x1 + (1 : Int32))), (0, .ref (ad kk))] rfl rfl (by decide) rfl dX1_begin_76 ?_
      refine G_goto hC 59 dX1_begin_79 (by decide) ?_
      refine G_lv [1, 0] rfl ?_
      exact ih59 _ _ _ H_sg hfr h
  have hL28 : ∀ (fu28 : Nat), ∀ (en1 : Nat → va_E) (sg : HallV) (x1 : Int32), Hall cs ad en1 kk sg → (∀ j, (j < kk ∨ kk + 11 ≤ j) → en1 j = en j) → f_X1_begin_L28 fu28 sg x1 = some q → G p l e ({ frames := 1, cells := 0, slots := 0, locals := 25 } : Room) s m args below meth c D n ad A 2 0 0 Q en1 28 [(0, .ref (ad kk)), (1, .int x1)] [] := by
    intro fu28
    induction fu28 with
    | zero =>
      intro en1 sg x1 H_sg hfr h
      rw [f_X1_begin_L28] at h
      cases h
    | succ fu28 ih28 =>
      intro en1 sg x1 H_sg hfr h
      rw [f_X1_begin_L28] at h
      refine G_iload_n hC 1 1 rfl rfl dX1_begin_28 ?_
      refine G_bipush hC (v := 8) (by decide) dX1_begin_29 ?_
      refine G_icmp_ge hC 57 dX1_begin_31 (by decide) (fun c31 => ?_) (fun c31 => ?_)
      · have h := ifp c31 h
        refine G_iconst hC (v := 0) (by decide) dX1_begin_57 ?_
        refine G_istore_n hC 1 [(1, .int (0 : Int32)), (0, .ref (ad kk))] rfl (by decide) rfl dX1_begin_58 ?_
        refine G_lv [1, 0] rfl ?_
        exact hL59 FU _ _ _ H_sg hfr h
      have h := ifn c31 h
      refine G_aload_n hC 0 0 rfl rfl dX1_begin_34 ?_
      refine G_get hC inX1 kk (by omega) (v := .ref (ad (kk + 7))) (H_sg 0 (by decide)) rfl 3 (by decide) m26 rfl rfl dX1_begin_35 ?_
      refine G_iconst hC (v := 0) (by decide) dX1_begin_38 ?_
      refine G_iload_n hC 1 1 rfl rfl dX1_begin_39 ?_
      refine G_gets hC 0 (by decide) m46 dX1_begin_40 ?_
      refine G_iload_n hC 1 1 rfl rfl dX1_begin_43 ?_
      obtain ⟨q44, h44, h⟩ := bnd h
      refine G_cNi (st := [.int x1, .int (0 : Int32), .ref (ad (kk + 7))]) hC _ (c_X10_at_s (ist := 0) l (by omega) h44) ⟨va_cnB 2 hC.hts gX1_begin_X10_at_n50 rfl rfl rfl (hC.2.2.2.1 ("TongueTip$Hall", 50, yX10_at, "TongueTip") (List.mem_of_getElem? (i := 0) rfl)) (hC.hts _ zi_X10_at) (by decide +kernel) ⟨Nat.le_of_ble_eq_true rfl, Nat.le_of_ble_eq_true rfl⟩, hC.hts _ zs_X10_at, trivial⟩ rfl (Nat.le_of_ble_eq_true rfl) (Nat.zero_le _) (Nat.zero_le _) rfl dX1_begin_44 (fun r44 enx hw => ?_)
      obtain ⟨rfl, rfl⟩ := hw
      refine G_i2l hC dX1_begin_47 ?_
      obtain ⟨q48, h48, h⟩ := bnd h
      refine G_cVv (st := []) hC _ (kk + 7) (by omega) (c_X8_set (pp := kk + 7) l (by omega) (H_sg 7 (by decide)) (H_sg 8 (by decide)) h48) (cwV 3 hC.hts gX1_begin_X8_set rfl rfl rfl (by decide +kernel) ⟨Nat.le_of_ble_eq_true rfl, Nat.le_of_ble_eq_true rfl⟩) (H_sg 7 (by decide)) rfl rfl (Nat.le_of_ble_eq_true rfl) (Nat.zero_le _) (Nat.zero_le _) rfl dX1_begin_48 (fun en2 hw => ?_)
      obtain ⟨t_Tc, fr⟩ := hw
      have H_sg : Hall cs ad en2 kk (hsC sg 3 q48) := H_sg.upC3 t_Tc fr
      have hfr : ∀ j, (j < kk ∨ kk + 11 ≤ j) → en2 j = en j := fun j o0 => (fr j (by omega)).trans (hfr j o0)
      refine G_iinc hC 1 1 [(1, .int (x1 + (1 : Int32))), (0, .ref (ad kk))] rfl rfl (by decide) rfl dX1_begin_51 ?_
      refine G_goto hC 28 dX1_begin_54 (by decide) ?_
      refine G_lv [1, 0] rfl ?_
      exact ih28 _ _ _ H_sg hfr h
  unfold f_X1_begin at h
  have hfr : ∀ j, (j < kk ∨ kk + 11 ≤ j) → en j = en j := fun _ _ => rfl
  refine G_aload_n hC 0 0 rfl rfl dX1_begin_0 ?_
  refine G_iconst hC (v := 0) (by decide) dX1_begin_1 ?_
  refine G_put hC inX1 tyX1 tyX1_ok nmX1 kk (by omega) (H_sg 0 (by decide)) rfl 5 (by decide) m39 rfl rfl (ty := .int) rfl rfl rfl (Nat.le_of_ble_eq_true rfl) dX1_begin_2 (fun en2 e0 fr => ?_)
  have H_sg : Hall cs ad en2 kk (hsD sg (0 : Int32)) := H_sg.upD e0 fr
  have hfr : ∀ j, (j < kk ∨ kk + 11 ≤ j) → en2 j = en j := fun j o0 => (fr j (by omega)).trans (hfr j o0)
  refine G_aload_n hC 0 0 rfl rfl dX1_begin_5 ?_
  refine G_get hC inX1 kk (by omega) (v := .ref (ad (kk + 1))) (H_sg 0 (by decide)) rfl 0 (by decide) m16 rfl rfl dX1_begin_6 ?_
  obtain ⟨q9, h9, h⟩ := bnd h
  refine G_cVv (st := []) hC _ (kk + 1) (by omega) (c_X8_forgetAll (pp := kk + 1) l (by omega) (H_sg 1 (by decide)) h9) (cwV 0 hC.hts gX1_begin_X8_forgetAll rfl rfl rfl (by decide +kernel) ⟨Nat.le_of_ble_eq_true rfl, Nat.le_of_ble_eq_true rfl⟩) (H_sg 1 (by decide)) rfl rfl (Nat.le_of_ble_eq_true rfl) (Nat.zero_le _) (Nat.zero_le _) rfl dX1_begin_9 (fun en3 hw => ?_)
  obtain ⟨t_T, fr⟩ := hw
  have H_sg : Hall cs ad en3 kk (hsR (hsD sg (0 : Int32)) 0 q9) := H_sg.upR0 t_T fr
  have hfr : ∀ j, (j < kk ∨ kk + 11 ≤ j) → en3 j = en j := fun j o0 => (fr j (by omega)).trans (hfr j o0)
  refine G_aload_n hC 0 0 rfl rfl dX1_begin_12 ?_
  refine G_get hC inX1 kk (by omega) (v := .ref (ad (kk + 3))) (H_sg 0 (by decide)) rfl 1 (by decide) m20 rfl rfl dX1_begin_13 ?_
  obtain ⟨q16, h16, h⟩ := bnd h
  refine G_cVv (st := []) hC _ (kk + 3) (by omega) (c_X8_forgetAll (pp := kk + 3) l (by omega) (H_sg 3 (by decide)) h16) (cwV 0 hC.hts gX1_begin_X8_forgetAll rfl rfl rfl (by decide +kernel) ⟨Nat.le_of_ble_eq_true rfl, Nat.le_of_ble_eq_true rfl⟩) (H_sg 3 (by decide)) rfl rfl (Nat.le_of_ble_eq_true rfl) (Nat.zero_le _) (Nat.zero_le _) rfl dX1_begin_16 (fun en4 hw => ?_)
  obtain ⟨t_T, fr⟩ := hw
  have H_sg : Hall cs ad en4 kk (hsR (hsR (hsD sg (0 : Int32)) 0 q9) 1 q16) := H_sg.upR1 t_T fr
  have hfr : ∀ j, (j < kk ∨ kk + 11 ≤ j) → en4 j = en j := fun j o0 => (fr j (by omega)).trans (hfr j o0)
  refine G_aload_n hC 0 0 rfl rfl dX1_begin_19 ?_
  refine G_get hC inX1 kk (by omega) (v := .ref (ad (kk + 5))) (H_sg 0 (by decide)) rfl 2 (by decide) m23 rfl rfl dX1_begin_20 ?_
  obtain ⟨q23, h23, h⟩ := bnd h
  refine G_cVv (st := []) hC _ (kk + 5) (by omega) (c_X8_forgetAll (pp := kk + 5) l (by omega) (H_sg 5 (by decide)) h23) (cwV 0 hC.hts gX1_begin_X8_forgetAll rfl rfl rfl (by decide +kernel) ⟨Nat.le_of_ble_eq_true rfl, Nat.le_of_ble_eq_true rfl⟩) (H_sg 5 (by decide)) rfl rfl (Nat.le_of_ble_eq_true rfl) (Nat.zero_le _) (Nat.zero_le _) rfl dX1_begin_23 (fun en5 hw => ?_)
  obtain ⟨t_T, fr⟩ := hw
  have H_sg : Hall cs ad en5 kk (hsR (hsR (hsR (hsD sg (0 : Int32)) 0 q9) 1 q16) 2 q23) := H_sg.upR2 t_T fr
  have hfr : ∀ j, (j < kk ∨ kk + 11 ≤ j) → en5 j = en j := fun j o0 => (fr j (by omega)).trans (hfr j o0)
  refine G_iconst hC (v := 0) (by decide) dX1_begin_26 ?_
  refine G_istore_n hC 1 [(1, .int (0 : Int32)), (0, .ref (ad kk))] rfl (by decide) rfl dX1_begin_27 ?_
  refine G_lv [1, 0] rfl ?_
  exact hL28 FU _ _ _ H_sg hfr h
def f_X1_become (sg : HallV) (sg2 : HallV)  : Option (HallV) := Option.bind (f_X8_become 84 ((hsD sg sg2.2.2).1 0) ((hsD sg sg2.2.2).2.1 0) 84 (sg2.1 0) (sg2.2.1 0)) (fun q16 => Option.bind (f_X8_become 15 ((hsC (hsR (hsD sg sg2.2.2) 0 q16.1) 0 q16.2).1 1) ((hsC (hsR (hsD sg sg2.2.2) 0 q16.1) 0 q16.2).2.1 1) 15 (sg2.1 1) (sg2.2.1 1)) (fun q27 => Option.bind (f_X8_become 12 ((hsC (hsR (hsC (hsR (hsD sg sg2.2.2) 0 q16.1) 0 q16.2) 1 q27.1) 1 q27.2).1 2) ((hsC (hsR (hsC (hsR (hsD sg sg2.2.2) 0 q16.1) 0 q16.2) 1 q27.1) 1 q27.2).2.1 2) 12 (sg2.1 2) (sg2.2.1 2)) (fun q38 => Option.bind (f_X8_become 8 ((hsC (hsR (hsC (hsR (hsC (hsR (hsD sg sg2.2.2) 0 q16.1) 0 q16.2) 1 q27.1) 1 q27.2) 2 q38.1) 2 q38.2).1 3) ((hsC (hsR (hsC (hsR (hsC (hsR (hsD sg sg2.2.2) 0 q16.1) 0 q16.2) 1 q27.1) 1 q27.2) 2 q38.1) 2 q38.2).2.1 3) 8 (sg2.1 3) (sg2.2.1 3)) (fun q49 => Option.bind (f_X8_become 5 ((hsC (hsR (hsC (hsR (hsC (hsR (hsC (hsR (hsD sg sg2.2.2) 0 q16.1) 0 q16.2) 1 q27.1) 1 q27.2) 2 q38.1) 2 q38.2) 3 q49.1) 3 q49.2).1 4) ((hsC (hsR (hsC (hsR (hsC (hsR (hsC (hsR (hsD sg sg2.2.2) 0 q16.1) 0 q16.2) 1 q27.1) 1 q27.2) 2 q38.1) 2 q38.2) 3 q49.1) 3 q49.2).2.1 4) 5 (sg2.1 4) (sg2.2.1 4)) (fun q60 => some (hsC (hsR (hsC (hsR (hsC (hsR (hsC (hsR (hsC (hsR (hsD sg sg2.2.2) 0 q16.1) 0 q16.2) 1 q27.1) 1 q27.2) 2 q38.1) 2 q38.2) 3 q49.1) 3 q49.2) 4 q60.1) 4 q60.2))))))
set_option maxHeartbeats 4000000 in
set_option maxRecDepth 100000 in
theorem c_X1_become {D : va_G} {cs : Nat → ClassId} {sa : Nat → Nat} {n : Nat} {ad : Nat → Nat} {A : Nat → Prop} (l : Launch) {en : Nat → va_E} {kk kk2 : Nat} {sg : HallV} {sg2 : HallV}   {q : HallV} (hkn : kk + 11 ≤ n) (hkn2 : kk2 + 11 ≤ n) (hdk : kk + 11 ≤ kk2 ∨ kk2 + 11 ≤ kk) (H_sg : Hall cs ad en kk sg) (H_sg2 : Hall cs ad en kk2 sg2) (h : f_X1_become sg sg2 = some q) : Met l yX1_become wsX1_become { frames := 1, cells := 0, slots := 0, locals := 22 } (va_Pc [.ref (ad kk), .ref (ad kk2)] (Wd D cs sa n ad A en)) (va_Qv (fun u => Hall cs ad u kk q ∧ (∀ j, (j < kk ∨ kk + 11 ≤ j) → u j = en j)) (Wd D cs sa n ad A) A) 0 0 A := by
  refine G_startV cX1_become 2 [(0, .ref (ad kk)), (1, .ref (ad kk2))] (by decide) rfl (Nat.le_of_ble_eq_true rfl) rfl ?_
  intro p e s m args below meth c Q hC hnm Kr
  have inX1 : ∀ w ∈ u_ws RX1 TX1 6, w ∈ wsX1_become := by decide +kernel
  have m16 : Cond.fieldLink RX1 16 "TongueTip$Hall" "people" "LTongueTip$Table;" ∈ wsX1_become := by decide +kernel
  have m20 : Cond.fieldLink RX1 20 "TongueTip$Hall" "tries" "LTongueTip$Table;" ∈ wsX1_become := by decide +kernel
  have m23 : Cond.fieldLink RX1 23 "TongueTip$Hall" "questions" "LTongueTip$Table;" ∈ wsX1_become := by decide +kernel
  have m26 : Cond.fieldLink RX1 26 "TongueTip$Hall" "settings" "LTongueTip$Table;" ∈ wsX1_become := by decide +kernel
  have m29 : Cond.fieldLink RX1 29 "TongueTip$Hall" "known" "LTongueTip$Table;" ∈ wsX1_become := by decide +kernel
  have m39 : Cond.fieldLink RX1 39 "TongueTip$Hall" "day" "I" ∈ wsX1_become := by decide +kernel
  unfold f_X1_become at h
  have hfr : ∀ j, (j < kk ∨ kk + 11 ≤ j) → en j = en j := fun _ _ => rfl
  refine G_aload_n hC 0 0 rfl rfl dX1_become_0 ?_
  refine G_aload_n hC 1 1 rfl rfl dX1_become_1 ?_
  refine G_get hC inX1 kk2 (by omega) (v := .int sg2.2.2) (H_sg2 0 (by decide)) rfl 5 (by decide) m39 rfl rfl dX1_become_2 ?_
  refine G_put hC inX1 tyX1 tyX1_ok nmX1 kk (by omega) (H_sg 0 (by decide)) rfl 5 (by decide) m39 rfl rfl (ty := .int) rfl rfl rfl (Nat.le_of_ble_eq_true rfl) dX1_become_5 (fun en2 e0 fr => ?_)
  have H_sg : Hall cs ad en2 kk (hsD sg sg2.2.2) := H_sg.upD e0 fr
  have H_sg2 := H_sg2.fr (fun j h1 h2 => fr j (by omega))
  have hfr : ∀ j, (j < kk ∨ kk + 11 ≤ j) → en2 j = en j := fun j o0 => (fr j (by omega)).trans (hfr j o0)
  refine G_aload_n hC 0 0 rfl rfl dX1_become_8 ?_
  refine G_get hC inX1 kk (by omega) (v := .ref (ad (kk + 1))) (H_sg 0 (by decide)) rfl 0 (by decide) m16 rfl rfl dX1_become_9 ?_
  refine G_aload_n hC 1 1 rfl rfl dX1_become_12 ?_
  refine G_get hC inX1 kk2 (by omega) (v := .ref (ad (kk2 + 1))) (H_sg2 0 (by decide)) rfl 0 (by decide) m16 rfl rfl dX1_become_13 ?_
  obtain ⟨q16, h16, h⟩ := bnd h
  refine G_cVv (st := []) hC _ (kk + 1) (by omega) (c_X8_become (pp := kk + 1) (pp2 := kk2 + 1) l (by omega) (by omega) (by omega) (H_sg 1 (by decide)) (H_sg2 1 (by decide)) (H_sg 2 (by decide)) (H_sg2 2 (by decide)) h16) (cwV 1 hC.hts gX1_become_X8_become rfl rfl rfl (by decide +kernel) ⟨Nat.le_of_ble_eq_true rfl, Nat.le_of_ble_eq_true rfl⟩) (H_sg 1 (by decide)) rfl rfl (Nat.le_of_ble_eq_true rfl) (Nat.zero_le _) (Nat.zero_le _) rfl dX1_become_16 (fun en3 hw => ?_)
  obtain ⟨t_T, t_Tc, fr⟩ := hw
  have H_sg : Hall cs ad en3 kk (hsC (hsR (hsD sg sg2.2.2) 0 q16.1) 0 q16.2) := H_sg.upRC0 t_T t_Tc (fun j hj => fr j (by omega) (by omega))
  have H_sg2 := H_sg2.fr (fun j h1 h2 => fr j (by omega) (by omega))
  have hfr : ∀ j, (j < kk ∨ kk + 11 ≤ j) → en3 j = en j := fun j o0 => (fr j (by omega) (by omega)).trans (hfr j o0)
  refine G_aload_n hC 0 0 rfl rfl dX1_become_19 ?_
  refine G_get hC inX1 kk (by omega) (v := .ref (ad (kk + 3))) (H_sg 0 (by decide)) rfl 1 (by decide) m20 rfl rfl dX1_become_20 ?_
  refine G_aload_n hC 1 1 rfl rfl dX1_become_23 ?_
  refine G_get hC inX1 kk2 (by omega) (v := .ref (ad (kk2 + 3))) (H_sg2 0 (by decide)) rfl 1 (by decide) m20 rfl rfl dX1_become_24 ?_
  obtain ⟨q27, h27, h⟩ := bnd h
  refine G_cVv (st := []) hC _ (kk + 3) (by omega) (c_X8_become (pp := kk + 3) (pp2 := kk2 + 3) l (by omega) (by omega) (by omega) (H_sg 3 (by decide)) (H_sg2 3 (by decide)) (H_sg 4 (by decide)) (H_sg2 4 (by decide)) h27) (cwV 1 hC.hts gX1_become_X8_become rfl rfl rfl (by decide +kernel) ⟨Nat.le_of_ble_eq_true rfl, Nat.le_of_ble_eq_true rfl⟩) (H_sg 3 (by decide)) rfl rfl (Nat.le_of_ble_eq_true rfl) (Nat.zero_le _) (Nat.zero_le _) rfl dX1_become_27 (fun en4 hw => ?_)
  obtain ⟨t_T, t_Tc, fr⟩ := hw
  have H_sg : Hall cs ad en4 kk (hsC (hsR (hsC (hsR (hsD sg sg2.2.2) 0 q16.1) 0 q16.2) 1 q27.1) 1 q27.2) := H_sg.upRC1 t_T t_Tc (fun j hj => fr j (by omega) (by omega))
  have H_sg2 := H_sg2.fr (fun j h1 h2 => fr j (by omega) (by omega))
  have hfr : ∀ j, (j < kk ∨ kk + 11 ≤ j) → en4 j = en j := fun j o0 => (fr j (by omega) (by omega)).trans (hfr j o0)
  refine G_aload_n hC 0 0 rfl rfl dX1_become_30 ?_
  refine G_get hC inX1 kk (by omega) (v := .ref (ad (kk + 5))) (H_sg 0 (by decide)) rfl 2 (by decide) m23 rfl rfl dX1_become_31 ?_
  refine G_aload_n hC 1 1 rfl rfl dX1_become_34 ?_
  refine G_get hC inX1 kk2 (by omega) (v := .ref (ad (kk2 + 5))) (H_sg2 0 (by decide)) rfl 2 (by decide) m23 rfl rfl dX1_become_35 ?_
  obtain ⟨q38, h38, h⟩ := bnd h
  refine G_cVv (st := []) hC _ (kk + 5) (by omega) (c_X8_become (pp := kk + 5) (pp2 := kk2 + 5) l (by omega) (by omega) (by omega) (H_sg 5 (by decide)) (H_sg2 5 (by decide)) (H_sg 6 (by decide)) (H_sg2 6 (by decide)) h38) (cwV 1 hC.hts gX1_become_X8_become rfl rfl rfl (by decide +kernel) ⟨Nat.le_of_ble_eq_true rfl, Nat.le_of_ble_eq_true rfl⟩) (H_sg 5 (by decide)) rfl rfl (Nat.le_of_ble_eq_true rfl) (Nat.zero_le _) (Nat.zero_le _) rfl dX1_become_38 (fun en5 hw => ?_)
  obtain ⟨t_T, t_Tc, fr⟩ := hw
  have H_sg : Hall cs ad en5 kk (hsC (hsR (hsC (hsR (hsC (hsR (hsD sg sg2.2.2) 0 q16.1) 0 q16.2) 1 q27.1) 1 q27.2) 2 q38.1) 2 q38.2) := H_sg.upRC2 t_T t_Tc (fun j hj => fr j (by omega) (by omega))
  have H_sg2 := H_sg2.fr (fun j h1 h2 => fr j (by omega) (by omega))
  have hfr : ∀ j, (j < kk ∨ kk + 11 ≤ j) → en5 j = en j := fun j o0 => (fr j (by omega) (by omega)).trans (hfr j o0)
  refine G_aload_n hC 0 0 rfl rfl dX1_become_41 ?_
  refine G_get hC inX1 kk (by omega) (v := .ref (ad (kk + 7))) (H_sg 0 (by decide)) rfl 3 (by decide) m26 rfl rfl dX1_become_42 ?_
  refine G_aload_n hC 1 1 rfl rfl dX1_become_45 ?_
  refine G_get hC inX1 kk2 (by omega) (v := .ref (ad (kk2 + 7))) (H_sg2 0 (by decide)) rfl 3 (by decide) m26 rfl rfl dX1_become_46 ?_
  obtain ⟨q49, h49, h⟩ := bnd h
  refine G_cVv (st := []) hC _ (kk + 7) (by omega) (c_X8_become (pp := kk + 7) (pp2 := kk2 + 7) l (by omega) (by omega) (by omega) (H_sg 7 (by decide)) (H_sg2 7 (by decide)) (H_sg 8 (by decide)) (H_sg2 8 (by decide)) h49) (cwV 1 hC.hts gX1_become_X8_become rfl rfl rfl (by decide +kernel) ⟨Nat.le_of_ble_eq_true rfl, Nat.le_of_ble_eq_true rfl⟩) (H_sg 7 (by decide)) rfl rfl (Nat.le_of_ble_eq_true rfl) (Nat.zero_le _) (Nat.zero_le _) rfl dX1_become_49 (fun en6 hw => ?_)
  obtain ⟨t_T, t_Tc, fr⟩ := hw
  have H_sg : Hall cs ad en6 kk (hsC (hsR (hsC (hsR (hsC (hsR (hsC (hsR (hsD sg sg2.2.2) 0 q16.1) 0 q16.2) 1 q27.1) 1 q27.2) 2 q38.1) 2 q38.2) 3 q49.1) 3 q49.2) := H_sg.upRC3 t_T t_Tc (fun j hj => fr j (by omega) (by omega))
  have H_sg2 := H_sg2.fr (fun j h1 h2 => fr j (by omega) (by omega))
  have hfr : ∀ j, (j < kk ∨ kk + 11 ≤ j) → en6 j = en j := fun j o0 => (fr j (by omega) (by omega)).trans (hfr j o0)
  refine G_aload_n hC 0 0 rfl rfl dX1_become_52 ?_
  refine G_get hC inX1 kk (by omega) (v := .ref (ad (kk + 9))) (H_sg 0 (by decide)) rfl 4 (by decide) m29 rfl rfl dX1_become_53 ?_
  refine G_aload_n hC 1 1 rfl rfl dX1_become_56 ?_
  refine G_get hC inX1 kk2 (by omega) (v := .ref (ad (kk2 + 9))) (H_sg2 0 (by decide)) rfl 4 (by decide) m29 rfl rfl dX1_become_57 ?_
  obtain ⟨q60, h60, h⟩ := bnd h
  refine G_cVv (st := []) hC _ (kk + 9) (by omega) (c_X8_become (pp := kk + 9) (pp2 := kk2 + 9) l (by omega) (by omega) (by omega) (H_sg 9 (by decide)) (H_sg2 9 (by decide)) (H_sg 10 (by decide)) (H_sg2 10 (by decide)) h60) (cwV 1 hC.hts gX1_become_X8_become rfl rfl rfl (by decide +kernel) ⟨Nat.le_of_ble_eq_true rfl, Nat.le_of_ble_eq_true rfl⟩) (H_sg 9 (by decide)) rfl rfl (Nat.le_of_ble_eq_true rfl) (Nat.zero_le _) (Nat.zero_le _) rfl dX1_become_60 (fun en7 hw => ?_)
  obtain ⟨t_T, t_Tc, fr⟩ := hw
  have H_sg : Hall cs ad en7 kk (hsC (hsR (hsC (hsR (hsC (hsR (hsC (hsR (hsC (hsR (hsD sg sg2.2.2) 0 q16.1) 0 q16.2) 1 q27.1) 1 q27.2) 2 q38.1) 2 q38.2) 3 q49.1) 3 q49.2) 4 q60.1) 4 q60.2) := H_sg.upRC4 t_T t_Tc (fun j hj => fr j (by omega) (by omega))
  have H_sg2 := H_sg2.fr (fun j h1 h2 => fr j (by omega) (by omega))
  have hfr : ∀ j, (j < kk ∨ kk + 11 ≤ j) → en7 j = en j := fun j o0 => (fr j (by omega) (by omega)).trans (hfr j o0)
  have h := Option.some.inj h
  subst h
  exact Kr _ _ _ ⟨H_sg, hfr⟩ dX1_become_63
def f_X1_mixedInto (sg : HallV) (x1 : Int64) : Option (Int64) := Option.bind (f_X8_mixedInto (7 : Int32) 84 (sg.1 0) (sg.2.1 0) x1) (fun q5 => Option.bind (f_X8_mixedInto (3 : Int32) 15 (sg.1 1) (sg.2.1 1) q5) (fun q14 => Option.bind (f_X8_mixedInto (2 : Int32) 12 (sg.1 2) (sg.2.1 2) q14) (fun q23 => Option.bind (f_X8_mixedInto (8 : Int32) 8 (sg.1 3) (sg.2.1 3) q23) (fun q32 => Option.bind (f_X8_mixedInto (5 : Int32) 5 (sg.1 4) (sg.2.1 4) q32) (fun q41 => some q41)))))
set_option maxHeartbeats 4000000 in
set_option maxRecDepth 100000 in
theorem c_X1_mixedInto {D : va_G} {cs : Nat → ClassId} {sa : Nat → Nat} {n : Nat} {ad : Nat → Nat} {A : Nat → Prop} (l : Launch) {en : Nat → va_E} {kk : Nat} {sg : HallV} {x1 : Int64}  {q : Int64} (hkn : kk + 11 ≤ n) (H_sg : Hall cs ad en kk sg) (h : f_X1_mixedInto sg x1 = some q) : Met l yX1_mixedInto wsX1_mixedInto { frames := 1, cells := 0, slots := 0, locals := 23 } (va_Pc [.ref (ad kk), .long x1] (Wd D cs sa n ad A en)) (va_Ql (fun r u => q = r ∧ en = u) (Wd D cs sa n ad A) A) 0 0 A := by
  refine G_startL cX1_mixedInto 3 [(0, .ref (ad kk)), (1, .long x1)] (by decide) rfl (Nat.le_of_ble_eq_true rfl) rfl ?_
  intro p e s m args below meth c Q hC hnm Kr
  have inX1 : ∀ w ∈ u_ws RX1 TX1 6, w ∈ wsX1_mixedInto := by decide +kernel
  have m16 : Cond.fieldLink RX1 16 "TongueTip$Hall" "people" "LTongueTip$Table;" ∈ wsX1_mixedInto := by decide +kernel
  have m20 : Cond.fieldLink RX1 20 "TongueTip$Hall" "tries" "LTongueTip$Table;" ∈ wsX1_mixedInto := by decide +kernel
  have m23 : Cond.fieldLink RX1 23 "TongueTip$Hall" "questions" "LTongueTip$Table;" ∈ wsX1_mixedInto := by decide +kernel
  have m26 : Cond.fieldLink RX1 26 "TongueTip$Hall" "settings" "LTongueTip$Table;" ∈ wsX1_mixedInto := by decide +kernel
  have m29 : Cond.fieldLink RX1 29 "TongueTip$Hall" "known" "LTongueTip$Table;" ∈ wsX1_mixedInto := by decide +kernel
  unfold f_X1_mixedInto at h
  refine G_aload_n hC 0 0 rfl rfl dX1_mixedInto_0 ?_
  refine G_get hC inX1 kk (by omega) (v := .ref (ad (kk + 1))) (H_sg 0 (by decide)) rfl 0 (by decide) m16 rfl rfl dX1_mixedInto_1 ?_
  refine G_lload_n hC 1 1 rfl rfl dX1_mixedInto_4 ?_
  obtain ⟨q5, h5, h⟩ := bnd h
  refine G_cVl (st := []) hC _ (kk + 1) (by omega) (c_X8_mixedInto (pp := kk + 1) l (by omega) (H_sg 1 (by decide)) (H_sg 2 (by decide)) h5) (cwV 1 hC.hts gX1_mixedInto_X8_mixedInto rfl rfl rfl (by decide +kernel) ⟨Nat.le_of_ble_eq_true rfl, Nat.le_of_ble_eq_true rfl⟩) (H_sg 1 (by decide)) rfl rfl (Nat.le_of_ble_eq_true rfl) (Nat.zero_le _) (Nat.zero_le _) rfl dX1_mixedInto_5 (fun r5 enx hw => ?_)
  obtain ⟨rfl, rfl⟩ := hw
  refine G_lstore_n hC 1 [(1, .long q5), (0, .ref (ad kk))] rfl (by decide) rfl dX1_mixedInto_8 ?_
  refine G_aload_n hC 0 1 rfl rfl dX1_mixedInto_9 ?_
  refine G_get hC inX1 kk (by omega) (v := .ref (ad (kk + 3))) (H_sg 0 (by decide)) rfl 1 (by decide) m20 rfl rfl dX1_mixedInto_10 ?_
  refine G_lload_n hC 1 0 rfl rfl dX1_mixedInto_13 ?_
  obtain ⟨q14, h14, h⟩ := bnd h
  refine G_cVl (st := []) hC _ (kk + 3) (by omega) (c_X8_mixedInto (pp := kk + 3) l (by omega) (H_sg 3 (by decide)) (H_sg 4 (by decide)) h14) (cwV 1 hC.hts gX1_mixedInto_X8_mixedInto rfl rfl rfl (by decide +kernel) ⟨Nat.le_of_ble_eq_true rfl, Nat.le_of_ble_eq_true rfl⟩) (H_sg 3 (by decide)) rfl rfl (Nat.le_of_ble_eq_true rfl) (Nat.zero_le _) (Nat.zero_le _) rfl dX1_mixedInto_14 (fun r14 enx hw => ?_)
  obtain ⟨rfl, rfl⟩ := hw
  refine G_lstore_n hC 1 [(1, .long q14), (0, .ref (ad kk))] rfl (by decide) rfl dX1_mixedInto_17 ?_
  refine G_aload_n hC 0 1 rfl rfl dX1_mixedInto_18 ?_
  refine G_get hC inX1 kk (by omega) (v := .ref (ad (kk + 5))) (H_sg 0 (by decide)) rfl 2 (by decide) m23 rfl rfl dX1_mixedInto_19 ?_
  refine G_lload_n hC 1 0 rfl rfl dX1_mixedInto_22 ?_
  obtain ⟨q23, h23, h⟩ := bnd h
  refine G_cVl (st := []) hC _ (kk + 5) (by omega) (c_X8_mixedInto (pp := kk + 5) l (by omega) (H_sg 5 (by decide)) (H_sg 6 (by decide)) h23) (cwV 1 hC.hts gX1_mixedInto_X8_mixedInto rfl rfl rfl (by decide +kernel) ⟨Nat.le_of_ble_eq_true rfl, Nat.le_of_ble_eq_true rfl⟩) (H_sg 5 (by decide)) rfl rfl (Nat.le_of_ble_eq_true rfl) (Nat.zero_le _) (Nat.zero_le _) rfl dX1_mixedInto_23 (fun r23 enx hw => ?_)
  obtain ⟨rfl, rfl⟩ := hw
  refine G_lstore_n hC 1 [(1, .long q23), (0, .ref (ad kk))] rfl (by decide) rfl dX1_mixedInto_26 ?_
  refine G_aload_n hC 0 1 rfl rfl dX1_mixedInto_27 ?_
  refine G_get hC inX1 kk (by omega) (v := .ref (ad (kk + 7))) (H_sg 0 (by decide)) rfl 3 (by decide) m26 rfl rfl dX1_mixedInto_28 ?_
  refine G_lload_n hC 1 0 rfl rfl dX1_mixedInto_31 ?_
  obtain ⟨q32, h32, h⟩ := bnd h
  refine G_cVl (st := []) hC _ (kk + 7) (by omega) (c_X8_mixedInto (pp := kk + 7) l (by omega) (H_sg 7 (by decide)) (H_sg 8 (by decide)) h32) (cwV 1 hC.hts gX1_mixedInto_X8_mixedInto rfl rfl rfl (by decide +kernel) ⟨Nat.le_of_ble_eq_true rfl, Nat.le_of_ble_eq_true rfl⟩) (H_sg 7 (by decide)) rfl rfl (Nat.le_of_ble_eq_true rfl) (Nat.zero_le _) (Nat.zero_le _) rfl dX1_mixedInto_32 (fun r32 enx hw => ?_)
  obtain ⟨rfl, rfl⟩ := hw
  refine G_lstore_n hC 1 [(1, .long q32), (0, .ref (ad kk))] rfl (by decide) rfl dX1_mixedInto_35 ?_
  refine G_aload_n hC 0 1 rfl rfl dX1_mixedInto_36 ?_
  refine G_get hC inX1 kk (by omega) (v := .ref (ad (kk + 9))) (H_sg 0 (by decide)) rfl 4 (by decide) m29 rfl rfl dX1_mixedInto_37 ?_
  refine G_lload_n hC 1 0 rfl rfl dX1_mixedInto_40 ?_
  obtain ⟨q41, h41, h⟩ := bnd h
  refine G_cVl (st := []) hC _ (kk + 9) (by omega) (c_X8_mixedInto (pp := kk + 9) l (by omega) (H_sg 9 (by decide)) (H_sg 10 (by decide)) h41) (cwV 1 hC.hts gX1_mixedInto_X8_mixedInto rfl rfl rfl (by decide +kernel) ⟨Nat.le_of_ble_eq_true rfl, Nat.le_of_ble_eq_true rfl⟩) (H_sg 9 (by decide)) rfl rfl (Nat.le_of_ble_eq_true rfl) (Nat.zero_le _) (Nat.zero_le _) rfl dX1_mixedInto_41 (fun r41 enx hw => ?_)
  obtain ⟨rfl, rfl⟩ := hw
  have h := Option.some.inj h
  subst h
  exact Kr _ _ _ _ ⟨rfl, rfl⟩ dX1_mixedInto_44
def f_X1_tellOne_B45   (sg : HallV) (x1 : Int64) (x3 : Int32) (x4 : Int32) (x5 : Int32) (x6 : Int32) (x7 : Int32) (x8 : Int32) (s0 : Int32) : Option (Int32 × HallV) := if x8 = 0 then (some ((-2 : Int32), sg)) else (if s0 = 0 then (some ((-2 : Int32), sg)) else (Option.bind (f_X10_within x6 (0 : Int32) (20 : Int32)) (fun q62 => if q62 = 0 then (some ((-2 : Int32), sg)) else (Option.bind (f_X10_within x7 (1 : Int32) (9 : Int32)) (fun q73 => if q73 = 0 then (some ((-2 : Int32), sg)) else (Option.bind (f_X8_addRow (12 : Int32) (sg.1 0)) (fun q86 => if q86.1 < 0 then (some (q86.1, hsR sg 0 q86.2)) else (Option.bind (f_X8_set (7 : Int32) 84 ((hsR sg 0 q86.2).2.1 0) q86.1 (0 : Int32) x1) (fun q104 => Option.bind (f_X8_set (7 : Int32) 84 ((hsC (hsR sg 0 q86.2) 0 q104).2.1 0) q86.1 (1 : Int32) x3.toInt64) (fun q116 => Option.bind (f_X8_set (7 : Int32) 84 ((hsC (hsC (hsR sg 0 q86.2) 0 q104) 0 q116).2.1 0) q86.1 (2 : Int32) x4.toInt64) (fun q129 => Option.bind (f_X8_set (7 : Int32) 84 ((hsC (hsC (hsC (hsR sg 0 q86.2) 0 q104) 0 q116) 0 q129).2.1 0) q86.1 (3 : Int32) x5.toInt64) (fun q142 => Option.bind (f_X8_set (7 : Int32) 84 ((hsC (hsC (hsC (hsC (hsR sg 0 q86.2) 0 q104) 0 q116) 0 q129) 0 q142).2.1 0) q86.1 (4 : Int32) x6.toInt64) (fun q155 => Option.bind (f_X8_set (7 : Int32) 84 ((hsC (hsC (hsC (hsC (hsC (hsR sg 0 q86.2) 0 q104) 0 q116) 0 q129) 0 q142) 0 q155).2.1 0) q86.1 (5 : Int32) x7.toInt64) (fun q168 => Option.bind (f_X8_set (7 : Int32) 84 ((hsC (hsC (hsC (hsC (hsC (hsC (hsR sg 0 q86.2) 0 q104) 0 q116) 0 q129) 0 q142) 0 q155) 0 q168).2.1 0) q86.1 (6 : Int32) (((hsC (hsC (hsC (hsC (hsC (hsC (hsR sg 0 q86.2) 0 q104) 0 q116) 0 q129) 0 q142) 0 q155) 0 q168).2.2).toInt64)) (fun q184 => some (q86.1, hsC (hsC (hsC (hsC (hsC (hsC (hsC (hsR sg 0 q86.2) 0 q104) 0 q116) 0 q129) 0 q142) 0 q155) 0 q168) 0 q184))))))))))))))))
def f_X1_tellOne_B44   (sg : HallV) (x1 : Int64) (x3 : Int32) (x4 : Int32) (x5 : Int32) (x6 : Int32) (x7 : Int32) (x8 : Int32) : Option (Int32 × HallV) := f_X1_tellOne_B45 sg x1 x3 x4 x5 x6 x7 x8 (0 : Int32)
def f_X1_tellOne_B20   (sg : HallV) (x1 : Int64) (x3 : Int32) (x4 : Int32) (x5 : Int32) (x6 : Int32) (x7 : Int32) (s0 : Int32) : Option (Int32 × HallV) := Option.bind (f_X1_isPartValue (3 : Int32) x4) (fun q25 => if q25 = 0 then (f_X1_tellOne_B44 sg x1 x3 x4 x5 x6 x7 s0) else (Option.bind (f_X1_isPartValue (4 : Int32) x5) (fun q34 => if q34 = 0 then (f_X1_tellOne_B44 sg x1 x3 x4 x5 x6 x7 s0) else (f_X1_tellOne_B45 sg x1 x3 x4 x5 x6 x7 s0 (1 : Int32)))))
def f_X1_tellOne_B19   (sg : HallV) (x1 : Int64) (x3 : Int32) (x4 : Int32) (x5 : Int32) (x6 : Int32) (x7 : Int32) : Option (Int32 × HallV) := f_X1_tellOne_B20 sg x1 x3 x4 x5 x6 x7 (0 : Int32)
def f_X1_tellOne (sg : HallV) (x1 : Int64) (x3 : Int32) (x4 : Int32) (x5 : Int32) (x6 : Int32) (x7 : Int32) : Option (Int32 × HallV) := Option.bind (f_X2_isName x1) (fun q1 => if q1 = 0 then (f_X1_tellOne_B19 sg x1 x3 x4 x5 x6 x7) else (Option.bind (f_X1_isPartValue (2 : Int32) x3) (fun q9 => if q9 = 0 then (f_X1_tellOne_B19 sg x1 x3 x4 x5 x6 x7) else (f_X1_tellOne_B20 sg x1 x3 x4 x5 x6 x7 (1 : Int32)))))
set_option maxHeartbeats 4000000 in
set_option maxRecDepth 100000 in
theorem c_X1_tellOne {D : va_G} {cs : Nat → ClassId} {sa : Nat → Nat} {n : Nat} {ad : Nat → Nat} {A : Nat → Prop} (l : Launch) {en : Nat → va_E} {kk : Nat} {sg : HallV} {x1 : Int64} {x3 : Int32} {x4 : Int32} {x5 : Int32} {x6 : Int32} {x7 : Int32}  {q : Int32 × HallV} (hkn : kk + 11 ≤ n) (H_sg : Hall cs ad en kk sg) (h : f_X1_tellOne sg x1 x3 x4 x5 x6 x7 = some q) : Met l yX1_tellOne wsX1_tellOne { frames := 2, cells := 0, slots := 0, locals := 47 } (va_Pc [.ref (ad kk), .long x1, .int x3, .int x4, .int x5, .int x6, .int x7] (Wd D cs sa n ad A en)) (va_Qi (fun r u => q.1 = r ∧ Hall cs ad u kk q.2 ∧ (∀ j, (j < kk ∨ kk + 11 ≤ j) → u j = en j)) (Wd D cs sa n ad A) A) 0 0 A := by
  refine G_startI cX1_tellOne 11 [(0, .ref (ad kk)), (1, .long x1), (3, .int x3), (4, .int x4), (5, .int x5), (6, .int x6), (7, .int x7)] (by decide) rfl (Nat.le_of_ble_eq_true rfl) rfl ?_
  intro p e s m args below meth c Q hC hnm Kr
  have inX1 : ∀ w ∈ u_ws RX1 TX1 6, w ∈ wsX1_tellOne := by decide +kernel
  have m16 : Cond.fieldLink RX1 16 "TongueTip$Hall" "people" "LTongueTip$Table;" ∈ wsX1_tellOne := by decide +kernel
  have m39 : Cond.fieldLink RX1 39 "TongueTip$Hall" "day" "I" ∈ wsX1_tellOne := by decide +kernel
  have zi_X10_within : Cond.initialized RX10 ∈ wsX1_tellOne := by decide +kernel
  have zs_X10_within : Cond.static yX10_within ∈ wsX1_tellOne := by decide +kernel
  have hB45 : ∀ (en1 : Nat → va_E) (sg : HallV) (x1 : Int64) (x3 : Int32) (x4 : Int32) (x5 : Int32) (x6 : Int32) (x7 : Int32) (x8 : Int32) (s0 : Int32), Hall cs ad en1 kk sg → (∀ j, (j < kk ∨ kk + 11 ≤ j) → en1 j = en j) → f_X1_tellOne_B45 sg x1 x3 x4 x5 x6 x7 x8 s0 = some q → G p l e ({ frames := 2, cells := 0, slots := 0, locals := 47 } : Room) s m args below meth c D n ad A 11 0 0 Q en1 45 [(0, .ref (ad kk)), (1, .long x1), (3, .int x3), (4, .int x4), (5, .int x5), (6, .int x6), (7, .int x7), (8, .int x8)] [.int s0] := by
    intro en1 sg x1 x3 x4 x5 x6 x7 x8 s0 H_sg hfr h
    unfold f_X1_tellOne_B45 at h
    refine G_istore hC 9 [(9, .int s0), (0, .ref (ad kk)), (1, .long x1), (3, .int x3), (4, .int x4), (5, .int x5), (6, .int x6), (7, .int x7), (8, .int x8)] (by decide) rfl dX1_tellOne_45 ?_
    refine G_iload hC 8 8 rfl dX1_tellOne_47 ?_
    refine G_if_eq hC 79 dX1_tellOne_49 (by decide) (fun c49 => ?_) (fun c49 => ?_)
    · have h := ifp c49 h
      refine G_bipush hC (v := (-2)) (by decide) dX1_tellOne_79 ?_
      have h := Option.some.inj h
      subst h
      exact Kr _ _ _ _ (nar_i _) ⟨rfl, H_sg, hfr⟩ dX1_tellOne_81
    have h := ifn c49 h
    refine G_iload hC 9 0 rfl dX1_tellOne_52 ?_
    refine G_if_eq hC 79 dX1_tellOne_54 (by decide) (fun c54 => ?_) (fun c54 => ?_)
    · have h := ifp c54 h
      refine G_bipush hC (v := (-2)) (by decide) dX1_tellOne_79 ?_
      have h := Option.some.inj h
      subst h
      exact Kr _ _ _ _ (nar_i _) ⟨rfl, H_sg, hfr⟩ dX1_tellOne_81
    have h := ifn c54 h
    refine G_iload hC 6 6 rfl dX1_tellOne_57 ?_
    refine G_iconst hC (v := 0) (by decide) dX1_tellOne_59 ?_
    refine G_bipush hC (v := 20) (by decide) dX1_tellOne_60 ?_
    obtain ⟨q62, h62, h⟩ := bnd h
    refine G_cNi (st := []) hC _ (c_X10_within  l  h62) ⟨va_cnB 3 hC.hts gX1_tellOne_X10_within_n78 rfl rfl rfl (hC.2.2.2.1 ("TongueTip$Hall", 78, yX10_within, "TongueTip") (List.mem_of_getElem? (i := 1) rfl)) (hC.hts _ zi_X10_within) (by decide +kernel) ⟨Nat.le_of_ble_eq_true rfl, Nat.le_of_ble_eq_true rfl⟩, hC.hts _ zs_X10_within, trivial⟩ rfl (Nat.le_of_ble_eq_true rfl) (Nat.zero_le _) (Nat.zero_le _) rfl dX1_tellOne_62 (fun r62 enx hw => ?_)
    obtain ⟨rfl, rfl⟩ := hw
    refine G_if_eq hC 79 dX1_tellOne_65 (by decide) (fun c65 => ?_) (fun c65 => ?_)
    · have h := ifp c65 h
      refine G_bipush hC (v := (-2)) (by decide) dX1_tellOne_79 ?_
      have h := Option.some.inj h
      subst h
      exact Kr _ _ _ _ (nar_i _) ⟨rfl, H_sg, hfr⟩ dX1_tellOne_81
    have h := ifn c65 h
    refine G_iload hC 7 7 rfl dX1_tellOne_68 ?_
    refine G_iconst hC (v := 1) (by decide) dX1_tellOne_70 ?_
    refine G_bipush hC (v := 9) (by decide) dX1_tellOne_71 ?_
    obtain ⟨q73, h73, h⟩ := bnd h
    refine G_cNi (st := []) hC _ (c_X10_within  l  h73) ⟨va_cnB 3 hC.hts gX1_tellOne_X10_within_n78 rfl rfl rfl (hC.2.2.2.1 ("TongueTip$Hall", 78, yX10_within, "TongueTip") (List.mem_of_getElem? (i := 1) rfl)) (hC.hts _ zi_X10_within) (by decide +kernel) ⟨Nat.le_of_ble_eq_true rfl, Nat.le_of_ble_eq_true rfl⟩, hC.hts _ zs_X10_within, trivial⟩ rfl (Nat.le_of_ble_eq_true rfl) (Nat.zero_le _) (Nat.zero_le _) rfl dX1_tellOne_73 (fun r73 enx hw => ?_)
    obtain ⟨rfl, rfl⟩ := hw
    refine G_if_ne hC 82 dX1_tellOne_76 (by decide) (fun c76 => ?_) (fun c76 => ?_)
    · have h := ifn c76 h
      refine G_aload_n hC 0 1 rfl rfl dX1_tellOne_82 ?_
      refine G_get hC inX1 kk (by omega) (v := .ref (ad (kk + 1))) (H_sg 0 (by decide)) rfl 0 (by decide) m16 rfl rfl dX1_tellOne_83 ?_
      obtain ⟨q86, h86, h⟩ := bnd h
      refine G_cVi (st := []) hC _ (kk + 1) (by omega) (c_X8_addRow (pp := kk + 1) l (by omega) (H_sg 1 (by decide)) h86) (cwV 0 hC.hts gX1_tellOne_X8_addRow rfl rfl rfl (by decide +kernel) ⟨Nat.le_of_ble_eq_true rfl, Nat.le_of_ble_eq_true rfl⟩) (H_sg 1 (by decide)) rfl rfl (Nat.le_of_ble_eq_true rfl) (Nat.zero_le _) (Nat.zero_le _) rfl dX1_tellOne_86 (fun r86 en2 hw => ?_)
      obtain ⟨rfl, t_T, fr⟩ := hw
      have H_sg : Hall cs ad en2 kk (hsR sg 0 q86.2) := H_sg.upR0 t_T fr
      have hfr : ∀ j, (j < kk ∨ kk + 11 ≤ j) → en2 j = en j := fun j o0 => (fr j (by omega)).trans (hfr j o0)
      refine G_istore hC 10 [(10, .int q86.1), (9, .int s0), (0, .ref (ad kk)), (1, .long x1), (3, .int x3), (4, .int x4), (5, .int x5), (6, .int x6), (7, .int x7), (8, .int x8)] (by decide) rfl dX1_tellOne_89 ?_
      refine G_iload hC 10 0 rfl dX1_tellOne_91 ?_
      refine G_if_lt hC 187 dX1_tellOne_93 (by decide) (fun c93 => ?_) (fun c93 => ?_)
      · have h := ifp c93 h
        refine G_iload hC 10 0 rfl dX1_tellOne_187 ?_
        have h := Option.some.inj h
        subst h
        exact Kr _ _ _ _ (nar_i _) ⟨rfl, H_sg, hfr⟩ dX1_tellOne_189
      have h := ifn c93 h
      refine G_aload_n hC 0 2 rfl rfl dX1_tellOne_96 ?_
      refine G_get hC inX1 kk (by omega) (v := .ref (ad (kk + 1))) (H_sg 0 (by decide)) rfl 0 (by decide) m16 rfl rfl dX1_tellOne_97 ?_
      refine G_iload hC 10 0 rfl dX1_tellOne_100 ?_
      refine G_iconst hC (v := 0) (by decide) dX1_tellOne_102 ?_
      refine G_lload_n hC 1 3 rfl rfl dX1_tellOne_103 ?_
      obtain ⟨q104, h104, h⟩ := bnd h
      refine G_cVv (st := []) hC _ (kk + 1) (by omega) (c_X8_set (pp := kk + 1) l (by omega) (H_sg 1 (by decide)) (H_sg 2 (by decide)) h104) (cwV 3 hC.hts gX1_tellOne_X8_set rfl rfl rfl (by decide +kernel) ⟨Nat.le_of_ble_eq_true rfl, Nat.le_of_ble_eq_true rfl⟩) (H_sg 1 (by decide)) rfl rfl (Nat.le_of_ble_eq_true rfl) (Nat.zero_le _) (Nat.zero_le _) rfl dX1_tellOne_104 (fun en3 hw => ?_)
      obtain ⟨t_Tc, fr⟩ := hw
      have H_sg : Hall cs ad en3 kk (hsC (hsR sg 0 q86.2) 0 q104) := H_sg.upC0 t_Tc fr
      have hfr : ∀ j, (j < kk ∨ kk + 11 ≤ j) → en3 j = en j := fun j o0 => (fr j (by omega)).trans (hfr j o0)
      refine G_aload_n hC 0 2 rfl rfl dX1_tellOne_107 ?_
      refine G_get hC inX1 kk (by omega) (v := .ref (ad (kk + 1))) (H_sg 0 (by decide)) rfl 0 (by decide) m16 rfl rfl dX1_tellOne_108 ?_
      refine G_iload hC 10 0 rfl dX1_tellOne_111 ?_
      refine G_iconst hC (v := 1) (by decide) dX1_tellOne_113 ?_
      refine G_iload_n hC 3 4 rfl rfl dX1_tellOne_114 ?_
      refine G_i2l hC dX1_tellOne_115 ?_
      obtain ⟨q116, h116, h⟩ := bnd h
      refine G_cVv (st := []) hC _ (kk + 1) (by omega) (c_X8_set (pp := kk + 1) l (by omega) (H_sg 1 (by decide)) (H_sg 2 (by decide)) h116) (cwV 3 hC.hts gX1_tellOne_X8_set rfl rfl rfl (by decide +kernel) ⟨Nat.le_of_ble_eq_true rfl, Nat.le_of_ble_eq_true rfl⟩) (H_sg 1 (by decide)) rfl rfl (Nat.le_of_ble_eq_true rfl) (Nat.zero_le _) (Nat.zero_le _) rfl dX1_tellOne_116 (fun en4 hw => ?_)
      obtain ⟨t_Tc, fr⟩ := hw
      have H_sg : Hall cs ad en4 kk (hsC (hsC (hsR sg 0 q86.2) 0 q104) 0 q116) := H_sg.upC0 t_Tc fr
      have hfr : ∀ j, (j < kk ∨ kk + 11 ≤ j) → en4 j = en j := fun j o0 => (fr j (by omega)).trans (hfr j o0)
      refine G_aload_n hC 0 2 rfl rfl dX1_tellOne_119 ?_
      refine G_get hC inX1 kk (by omega) (v := .ref (ad (kk + 1))) (H_sg 0 (by decide)) rfl 0 (by decide) m16 rfl rfl dX1_tellOne_120 ?_
      refine G_iload hC 10 0 rfl dX1_tellOne_123 ?_
      refine G_iconst hC (v := 2) (by decide) dX1_tellOne_125 ?_
      refine G_iload hC 4 5 rfl dX1_tellOne_126 ?_
      refine G_i2l hC dX1_tellOne_128 ?_
      obtain ⟨q129, h129, h⟩ := bnd h
      refine G_cVv (st := []) hC _ (kk + 1) (by omega) (c_X8_set (pp := kk + 1) l (by omega) (H_sg 1 (by decide)) (H_sg 2 (by decide)) h129) (cwV 3 hC.hts gX1_tellOne_X8_set rfl rfl rfl (by decide +kernel) ⟨Nat.le_of_ble_eq_true rfl, Nat.le_of_ble_eq_true rfl⟩) (H_sg 1 (by decide)) rfl rfl (Nat.le_of_ble_eq_true rfl) (Nat.zero_le _) (Nat.zero_le _) rfl dX1_tellOne_129 (fun en5 hw => ?_)
      obtain ⟨t_Tc, fr⟩ := hw
      have H_sg : Hall cs ad en5 kk (hsC (hsC (hsC (hsR sg 0 q86.2) 0 q104) 0 q116) 0 q129) := H_sg.upC0 t_Tc fr
      have hfr : ∀ j, (j < kk ∨ kk + 11 ≤ j) → en5 j = en j := fun j o0 => (fr j (by omega)).trans (hfr j o0)
      refine G_aload_n hC 0 2 rfl rfl dX1_tellOne_132 ?_
      refine G_get hC inX1 kk (by omega) (v := .ref (ad (kk + 1))) (H_sg 0 (by decide)) rfl 0 (by decide) m16 rfl rfl dX1_tellOne_133 ?_
      refine G_iload hC 10 0 rfl dX1_tellOne_136 ?_
      refine G_iconst hC (v := 3) (by decide) dX1_tellOne_138 ?_
      refine G_iload hC 5 6 rfl dX1_tellOne_139 ?_
      refine G_i2l hC dX1_tellOne_141 ?_
      obtain ⟨q142, h142, h⟩ := bnd h
      refine G_cVv (st := []) hC _ (kk + 1) (by omega) (c_X8_set (pp := kk + 1) l (by omega) (H_sg 1 (by decide)) (H_sg 2 (by decide)) h142) (cwV 3 hC.hts gX1_tellOne_X8_set rfl rfl rfl (by decide +kernel) ⟨Nat.le_of_ble_eq_true rfl, Nat.le_of_ble_eq_true rfl⟩) (H_sg 1 (by decide)) rfl rfl (Nat.le_of_ble_eq_true rfl) (Nat.zero_le _) (Nat.zero_le _) rfl dX1_tellOne_142 (fun en6 hw => ?_)
      obtain ⟨t_Tc, fr⟩ := hw
      have H_sg : Hall cs ad en6 kk (hsC (hsC (hsC (hsC (hsR sg 0 q86.2) 0 q104) 0 q116) 0 q129) 0 q142) := H_sg.upC0 t_Tc fr
      have hfr : ∀ j, (j < kk ∨ kk + 11 ≤ j) → en6 j = en j := fun j o0 => (fr j (by omega)).trans (hfr j o0)
      refine G_aload_n hC 0 2 rfl rfl dX1_tellOne_145 ?_
      refine G_get hC inX1 kk (by omega) (v := .ref (ad (kk + 1))) (H_sg 0 (by decide)) rfl 0 (by decide) m16 rfl rfl dX1_tellOne_146 ?_
      refine G_iload hC 10 0 rfl dX1_tellOne_149 ?_
      refine G_iconst hC (v := 4) (by decide) dX1_tellOne_151 ?_
      refine G_iload hC 6 7 rfl dX1_tellOne_152 ?_
      refine G_i2l hC dX1_tellOne_154 ?_
      obtain ⟨q155, h155, h⟩ := bnd h
      refine G_cVv (st := []) hC _ (kk + 1) (by omega) (c_X8_set (pp := kk + 1) l (by omega) (H_sg 1 (by decide)) (H_sg 2 (by decide)) h155) (cwV 3 hC.hts gX1_tellOne_X8_set rfl rfl rfl (by decide +kernel) ⟨Nat.le_of_ble_eq_true rfl, Nat.le_of_ble_eq_true rfl⟩) (H_sg 1 (by decide)) rfl rfl (Nat.le_of_ble_eq_true rfl) (Nat.zero_le _) (Nat.zero_le _) rfl dX1_tellOne_155 (fun en7 hw => ?_)
      obtain ⟨t_Tc, fr⟩ := hw
      have H_sg : Hall cs ad en7 kk (hsC (hsC (hsC (hsC (hsC (hsR sg 0 q86.2) 0 q104) 0 q116) 0 q129) 0 q142) 0 q155) := H_sg.upC0 t_Tc fr
      have hfr : ∀ j, (j < kk ∨ kk + 11 ≤ j) → en7 j = en j := fun j o0 => (fr j (by omega)).trans (hfr j o0)
      refine G_aload_n hC 0 2 rfl rfl dX1_tellOne_158 ?_
      refine G_get hC inX1 kk (by omega) (v := .ref (ad (kk + 1))) (H_sg 0 (by decide)) rfl 0 (by decide) m16 rfl rfl dX1_tellOne_159 ?_
      refine G_iload hC 10 0 rfl dX1_tellOne_162 ?_
      refine G_iconst hC (v := 5) (by decide) dX1_tellOne_164 ?_
      refine G_iload hC 7 8 rfl dX1_tellOne_165 ?_
      refine G_i2l hC dX1_tellOne_167 ?_
      obtain ⟨q168, h168, h⟩ := bnd h
      refine G_cVv (st := []) hC _ (kk + 1) (by omega) (c_X8_set (pp := kk + 1) l (by omega) (H_sg 1 (by decide)) (H_sg 2 (by decide)) h168) (cwV 3 hC.hts gX1_tellOne_X8_set rfl rfl rfl (by decide +kernel) ⟨Nat.le_of_ble_eq_true rfl, Nat.le_of_ble_eq_true rfl⟩) (H_sg 1 (by decide)) rfl rfl (Nat.le_of_ble_eq_true rfl) (Nat.zero_le _) (Nat.zero_le _) rfl dX1_tellOne_168 (fun en8 hw => ?_)
      obtain ⟨t_Tc, fr⟩ := hw
      have H_sg : Hall cs ad en8 kk (hsC (hsC (hsC (hsC (hsC (hsC (hsR sg 0 q86.2) 0 q104) 0 q116) 0 q129) 0 q142) 0 q155) 0 q168) := H_sg.upC0 t_Tc fr
      have hfr : ∀ j, (j < kk ∨ kk + 11 ≤ j) → en8 j = en j := fun j o0 => (fr j (by omega)).trans (hfr j o0)
      refine G_aload_n hC 0 2 rfl rfl dX1_tellOne_171 ?_
      refine G_get hC inX1 kk (by omega) (v := .ref (ad (kk + 1))) (H_sg 0 (by decide)) rfl 0 (by decide) m16 rfl rfl dX1_tellOne_172 ?_
      refine G_iload hC 10 0 rfl dX1_tellOne_175 ?_
      refine G_bipush hC (v := 6) (by decide) dX1_tellOne_177 ?_
      refine G_aload_n hC 0 2 rfl rfl dX1_tellOne_179 ?_
      refine G_get hC inX1 kk (by omega) (v := .int ((hsC (hsC (hsC (hsC (hsC (hsC (hsR sg 0 q86.2) 0 q104) 0 q116) 0 q129) 0 q142) 0 q155) 0 q168).2.2)) (H_sg 0 (by decide)) rfl 5 (by decide) m39 rfl rfl dX1_tellOne_180 ?_
      refine G_i2l hC dX1_tellOne_183 ?_
      obtain ⟨q184, h184, h⟩ := bnd h
      refine G_cVv (st := []) hC _ (kk + 1) (by omega) (c_X8_set (pp := kk + 1) l (by omega) (H_sg 1 (by decide)) (H_sg 2 (by decide)) h184) (cwV 3 hC.hts gX1_tellOne_X8_set rfl rfl rfl (by decide +kernel) ⟨Nat.le_of_ble_eq_true rfl, Nat.le_of_ble_eq_true rfl⟩) (H_sg 1 (by decide)) rfl rfl (Nat.le_of_ble_eq_true rfl) (Nat.zero_le _) (Nat.zero_le _) rfl dX1_tellOne_184 (fun en9 hw => ?_)
      obtain ⟨t_Tc, fr⟩ := hw
      have H_sg : Hall cs ad en9 kk (hsC (hsC (hsC (hsC (hsC (hsC (hsC (hsR sg 0 q86.2) 0 q104) 0 q116) 0 q129) 0 q142) 0 q155) 0 q168) 0 q184) := H_sg.upC0 t_Tc fr
      have hfr : ∀ j, (j < kk ∨ kk + 11 ≤ j) → en9 j = en j := fun j o0 => (fr j (by omega)).trans (hfr j o0)
      refine G_iload hC 10 0 rfl dX1_tellOne_187 ?_
      have h := Option.some.inj h
      subst h
      exact Kr _ _ _ _ (nar_i _) ⟨rfl, H_sg, hfr⟩ dX1_tellOne_189
    have h := ifp c76 h
    refine G_bipush hC (v := (-2)) (by decide) dX1_tellOne_79 ?_
    have h := Option.some.inj h
    subst h
    exact Kr _ _ _ _ (nar_i _) ⟨rfl, H_sg, hfr⟩ dX1_tellOne_81
  have hB44 : ∀ (en1 : Nat → va_E) (sg : HallV) (x1 : Int64) (x3 : Int32) (x4 : Int32) (x5 : Int32) (x6 : Int32) (x7 : Int32) (x8 : Int32), Hall cs ad en1 kk sg → (∀ j, (j < kk ∨ kk + 11 ≤ j) → en1 j = en j) → f_X1_tellOne_B44 sg x1 x3 x4 x5 x6 x7 x8 = some q → G p l e ({ frames := 2, cells := 0, slots := 0, locals := 47 } : Room) s m args below meth c D n ad A 11 0 0 Q en1 44 [(0, .ref (ad kk)), (1, .long x1), (3, .int x3), (4, .int x4), (5, .int x5), (6, .int x6), (7, .int x7), (8, .int x8)] [] := by
    intro en1 sg x1 x3 x4 x5 x6 x7 x8 H_sg hfr h
    unfold f_X1_tellOne_B44 at h
    refine G_iconst hC (v := 0) (by decide) dX1_tellOne_44 ?_
    refine G_lv [0, 1, 2, 3, 4, 5, 6, 7] rfl ?_
    exact hB45 _ _ _ _ _ _ _ _ _ _ H_sg hfr h
  have hB20 : ∀ (en1 : Nat → va_E) (sg : HallV) (x1 : Int64) (x3 : Int32) (x4 : Int32) (x5 : Int32) (x6 : Int32) (x7 : Int32) (s0 : Int32), Hall cs ad en1 kk sg → (∀ j, (j < kk ∨ kk + 11 ≤ j) → en1 j = en j) → f_X1_tellOne_B20 sg x1 x3 x4 x5 x6 x7 s0 = some q → G p l e ({ frames := 2, cells := 0, slots := 0, locals := 47 } : Room) s m args below meth c D n ad A 11 0 0 Q en1 20 [(0, .ref (ad kk)), (1, .long x1), (3, .int x3), (4, .int x4), (5, .int x5), (6, .int x6), (7, .int x7)] [.int s0] := by
    intro en1 sg x1 x3 x4 x5 x6 x7 s0 H_sg hfr h
    unfold f_X1_tellOne_B20 at h
    refine G_istore hC 8 [(8, .int s0), (0, .ref (ad kk)), (1, .long x1), (3, .int x3), (4, .int x4), (5, .int x5), (6, .int x6), (7, .int x7)] (by decide) rfl dX1_tellOne_20 ?_
    refine G_iconst hC (v := 3) (by decide) dX1_tellOne_22 ?_
    refine G_iload hC 4 4 rfl dX1_tellOne_23 ?_
    obtain ⟨q25, h25, h⟩ := bnd h
    refine G_cSi (st := []) hC _ (c_X1_isPartValue  l  h25) (va_cwS 2 hC.hts gX1_tellOne_X1_isPartValue rfl rfl rfl (by decide +kernel) ⟨Nat.le_of_ble_eq_true rfl, Nat.le_of_ble_eq_true rfl⟩) rfl (Nat.le_of_ble_eq_true rfl) (Nat.zero_le _) (Nat.zero_le _) rfl dX1_tellOne_25 (fun r25 enx hw => ?_)
    obtain ⟨rfl, rfl⟩ := hw
    refine G_if_eq hC 44 dX1_tellOne_28 (by decide) (fun c28 => ?_) (fun c28 => ?_)
    · have h := ifp c28 h
      refine G_lv [1, 2, 3, 4, 5, 6, 7, 0] rfl ?_
      exact hB44 _ _ _ _ _ _ _ _ _ H_sg hfr h
    have h := ifn c28 h
    refine G_iconst hC (v := 4) (by decide) dX1_tellOne_31 ?_
    refine G_iload hC 5 5 rfl dX1_tellOne_32 ?_
    obtain ⟨q34, h34, h⟩ := bnd h
    refine G_cSi (st := []) hC _ (c_X1_isPartValue  l  h34) (va_cwS 2 hC.hts gX1_tellOne_X1_isPartValue rfl rfl rfl (by decide +kernel) ⟨Nat.le_of_ble_eq_true rfl, Nat.le_of_ble_eq_true rfl⟩) rfl (Nat.le_of_ble_eq_true rfl) (Nat.zero_le _) (Nat.zero_le _) rfl dX1_tellOne_34 (fun r34 enx hw => ?_)
    obtain ⟨rfl, rfl⟩ := hw
    refine G_if_eq hC 44 dX1_tellOne_37 (by decide) (fun c37 => ?_) (fun c37 => ?_)
    · have h := ifp c37 h
      refine G_lv [1, 2, 3, 4, 5, 6, 7, 0] rfl ?_
      exact hB44 _ _ _ _ _ _ _ _ _ H_sg hfr h
    have h := ifn c37 h
    refine G_iconst hC (v := 1) (by decide) dX1_tellOne_40 ?_
    refine G_goto hC 45 dX1_tellOne_41 (by decide) ?_
    refine G_lv [1, 2, 3, 4, 5, 6, 7, 0] rfl ?_
    exact hB45 _ _ _ _ _ _ _ _ _ _ H_sg hfr h
  have hB19 : ∀ (en1 : Nat → va_E) (sg : HallV) (x1 : Int64) (x3 : Int32) (x4 : Int32) (x5 : Int32) (x6 : Int32) (x7 : Int32), Hall cs ad en1 kk sg → (∀ j, (j < kk ∨ kk + 11 ≤ j) → en1 j = en j) → f_X1_tellOne_B19 sg x1 x3 x4 x5 x6 x7 = some q → G p l e ({ frames := 2, cells := 0, slots := 0, locals := 47 } : Room) s m args below meth c D n ad A 11 0 0 Q en1 19 [(0, .ref (ad kk)), (1, .long x1), (3, .int x3), (4, .int x4), (5, .int x5), (6, .int x6), (7, .int x7)] [] := by
    intro en1 sg x1 x3 x4 x5 x6 x7 H_sg hfr h
    unfold f_X1_tellOne_B19 at h
    refine G_iconst hC (v := 0) (by decide) dX1_tellOne_19 ?_
    refine G_lv [0, 1, 2, 3, 4, 5, 6] rfl ?_
    exact hB20 _ _ _ _ _ _ _ _ _ H_sg hfr h
  unfold f_X1_tellOne at h
  have hfr : ∀ j, (j < kk ∨ kk + 11 ≤ j) → en j = en j := fun _ _ => rfl
  refine G_lload_n hC 1 1 rfl rfl dX1_tellOne_0 ?_
  obtain ⟨q1, h1, h⟩ := bnd h
  refine G_cSi (st := []) hC _ (c_X2_isName  l  h1) (va_cwS 1 hC.hts gX1_tellOne_X2_isName rfl rfl rfl (by decide +kernel) ⟨Nat.le_of_ble_eq_true rfl, Nat.le_of_ble_eq_true rfl⟩) rfl (Nat.le_of_ble_eq_true rfl) (Nat.zero_le _) (Nat.zero_le _) rfl dX1_tellOne_1 (fun r1 enx hw => ?_)
  obtain ⟨rfl, rfl⟩ := hw
  refine G_if_eq hC 19 dX1_tellOne_4 (by decide) (fun c4 => ?_) (fun c4 => ?_)
  · have h := ifp c4 h
    refine G_lv [0, 1, 2, 3, 4, 5, 6] rfl ?_
    exact hB19 _ _ _ _ _ _ _ _ H_sg hfr h
  have h := ifn c4 h
  refine G_iconst hC (v := 2) (by decide) dX1_tellOne_7 ?_
  refine G_iload_n hC 3 2 rfl rfl dX1_tellOne_8 ?_
  obtain ⟨q9, h9, h⟩ := bnd h
  refine G_cSi (st := []) hC _ (c_X1_isPartValue  l  h9) (va_cwS 2 hC.hts gX1_tellOne_X1_isPartValue rfl rfl rfl (by decide +kernel) ⟨Nat.le_of_ble_eq_true rfl, Nat.le_of_ble_eq_true rfl⟩) rfl (Nat.le_of_ble_eq_true rfl) (Nat.zero_le _) (Nat.zero_le _) rfl dX1_tellOne_9 (fun r9 enx hw => ?_)
  obtain ⟨rfl, rfl⟩ := hw
  refine G_if_eq hC 19 dX1_tellOne_12 (by decide) (fun c12 => ?_) (fun c12 => ?_)
  · have h := ifp c12 h
    refine G_lv [0, 1, 2, 3, 4, 5, 6] rfl ?_
    exact hB19 _ _ _ _ _ _ _ _ H_sg hfr h
  have h := ifn c12 h
  refine G_iconst hC (v := 1) (by decide) dX1_tellOne_15 ?_
  refine G_goto hC 20 dX1_tellOne_16 (by decide) ?_
  refine G_lv [0, 1, 2, 3, 4, 5, 6] rfl ?_
  exact hB20 _ _ _ _ _ _ _ _ _ H_sg hfr h
def f_X1_tellTry (sg : HallV) (x1 : Int32) (x2 : Int32) (x3 : Int32) : Option (Int32 × HallV) := Option.bind (f_X10_within x1 (0 : Int32) (5 : Int32)) (fun q3 => if q3 = 0 then (some ((-2 : Int32), sg)) else (Option.bind (f_X10_within x2 (1 : Int32) (20 : Int32)) (fun q13 => if q13 = 0 then (some ((-2 : Int32), sg)) else (Option.bind (f_X10_within x3 (1 : Int32) (20 : Int32)) (fun q23 => if q23 = 0 then (some ((-2 : Int32), sg)) else (Option.bind (f_X8_addRow (5 : Int32) (sg.1 1)) (fun q36 => if q36.1 < 0 then (some (q36.1, hsR sg 1 q36.2)) else (Option.bind (f_X8_set (3 : Int32) 15 ((hsR sg 1 q36.2).2.1 1) q36.1 (0 : Int32) x1.toInt64) (fun q55 => Option.bind (f_X8_set (3 : Int32) 15 ((hsC (hsR sg 1 q36.2) 1 q55).2.1 1) q36.1 (1 : Int32) x2.toInt64) (fun q67 => Option.bind (f_X8_set (3 : Int32) 15 ((hsC (hsC (hsR sg 1 q36.2) 1 q55) 1 q67).2.1 1) q36.1 (2 : Int32) x3.toInt64) (fun q79 => some (q36.1, hsC (hsC (hsC (hsR sg 1 q36.2) 1 q55) 1 q67) 1 q79))))))))))))
set_option maxHeartbeats 4000000 in
set_option maxRecDepth 100000 in
theorem c_X1_tellTry {D : va_G} {cs : Nat → ClassId} {sa : Nat → Nat} {n : Nat} {ad : Nat → Nat} {A : Nat → Prop} (l : Launch) {en : Nat → va_E} {kk : Nat} {sg : HallV} {x1 : Int32} {x2 : Int32} {x3 : Int32}  {q : Int32 × HallV} (hkn : kk + 11 ≤ n) (H_sg : Hall cs ad en kk sg) (h : f_X1_tellTry sg x1 x2 x3 = some q) : Met l yX1_tellTry wsX1_tellTry { frames := 2, cells := 0, slots := 0, locals := 40 } (va_Pc [.ref (ad kk), .int x1, .int x2, .int x3] (Wd D cs sa n ad A en)) (va_Qi (fun r u => q.1 = r ∧ Hall cs ad u kk q.2 ∧ (∀ j, (j < kk ∨ kk + 11 ≤ j) → u j = en j)) (Wd D cs sa n ad A) A) 0 0 A := by
  refine G_startI cX1_tellTry 5 [(0, .ref (ad kk)), (1, .int x1), (2, .int x2), (3, .int x3)] (by decide) rfl (Nat.le_of_ble_eq_true rfl) rfl ?_
  intro p e s m args below meth c Q hC hnm Kr
  have inX1 : ∀ w ∈ u_ws RX1 TX1 6, w ∈ wsX1_tellTry := by decide +kernel
  have m20 : Cond.fieldLink RX1 20 "TongueTip$Hall" "tries" "LTongueTip$Table;" ∈ wsX1_tellTry := by decide +kernel
  have zi_X10_within : Cond.initialized RX10 ∈ wsX1_tellTry := by decide +kernel
  have zs_X10_within : Cond.static yX10_within ∈ wsX1_tellTry := by decide +kernel
  unfold f_X1_tellTry at h
  have hfr : ∀ j, (j < kk ∨ kk + 11 ≤ j) → en j = en j := fun _ _ => rfl
  refine G_iload_n hC 1 1 rfl rfl dX1_tellTry_0 ?_
  refine G_iconst hC (v := 0) (by decide) dX1_tellTry_1 ?_
  refine G_iconst hC (v := 5) (by decide) dX1_tellTry_2 ?_
  obtain ⟨q3, h3, h⟩ := bnd h
  refine G_cNi (st := []) hC _ (c_X10_within  l  h3) ⟨va_cnB 3 hC.hts gX1_tellTry_X10_within_n78 rfl rfl rfl (hC.2.2.2.1 ("TongueTip$Hall", 78, yX10_within, "TongueTip") (List.mem_of_getElem? (i := 1) rfl)) (hC.hts _ zi_X10_within) (by decide +kernel) ⟨Nat.le_of_ble_eq_true rfl, Nat.le_of_ble_eq_true rfl⟩, hC.hts _ zs_X10_within, trivial⟩ rfl (Nat.le_of_ble_eq_true rfl) (Nat.zero_le _) (Nat.zero_le _) rfl dX1_tellTry_3 (fun r3 enx hw => ?_)
  obtain ⟨rfl, rfl⟩ := hw
  refine G_if_eq hC 29 dX1_tellTry_6 (by decide) (fun c6 => ?_) (fun c6 => ?_)
  · have h := ifp c6 h
    refine G_bipush hC (v := (-2)) (by decide) dX1_tellTry_29 ?_
    have h := Option.some.inj h
    subst h
    exact Kr _ _ _ _ (nar_i _) ⟨rfl, H_sg, hfr⟩ dX1_tellTry_31
  have h := ifn c6 h
  refine G_iload_n hC 2 2 rfl rfl dX1_tellTry_9 ?_
  refine G_iconst hC (v := 1) (by decide) dX1_tellTry_10 ?_
  refine G_bipush hC (v := 20) (by decide) dX1_tellTry_11 ?_
  obtain ⟨q13, h13, h⟩ := bnd h
  refine G_cNi (st := []) hC _ (c_X10_within  l  h13) ⟨va_cnB 3 hC.hts gX1_tellTry_X10_within_n78 rfl rfl rfl (hC.2.2.2.1 ("TongueTip$Hall", 78, yX10_within, "TongueTip") (List.mem_of_getElem? (i := 1) rfl)) (hC.hts _ zi_X10_within) (by decide +kernel) ⟨Nat.le_of_ble_eq_true rfl, Nat.le_of_ble_eq_true rfl⟩, hC.hts _ zs_X10_within, trivial⟩ rfl (Nat.le_of_ble_eq_true rfl) (Nat.zero_le _) (Nat.zero_le _) rfl dX1_tellTry_13 (fun r13 enx hw => ?_)
  obtain ⟨rfl, rfl⟩ := hw
  refine G_if_eq hC 29 dX1_tellTry_16 (by decide) (fun c16 => ?_) (fun c16 => ?_)
  · have h := ifp c16 h
    refine G_bipush hC (v := (-2)) (by decide) dX1_tellTry_29 ?_
    have h := Option.some.inj h
    subst h
    exact Kr _ _ _ _ (nar_i _) ⟨rfl, H_sg, hfr⟩ dX1_tellTry_31
  have h := ifn c16 h
  refine G_iload_n hC 3 3 rfl rfl dX1_tellTry_19 ?_
  refine G_iconst hC (v := 1) (by decide) dX1_tellTry_20 ?_
  refine G_bipush hC (v := 20) (by decide) dX1_tellTry_21 ?_
  obtain ⟨q23, h23, h⟩ := bnd h
  refine G_cNi (st := []) hC _ (c_X10_within  l  h23) ⟨va_cnB 3 hC.hts gX1_tellTry_X10_within_n78 rfl rfl rfl (hC.2.2.2.1 ("TongueTip$Hall", 78, yX10_within, "TongueTip") (List.mem_of_getElem? (i := 1) rfl)) (hC.hts _ zi_X10_within) (by decide +kernel) ⟨Nat.le_of_ble_eq_true rfl, Nat.le_of_ble_eq_true rfl⟩, hC.hts _ zs_X10_within, trivial⟩ rfl (Nat.le_of_ble_eq_true rfl) (Nat.zero_le _) (Nat.zero_le _) rfl dX1_tellTry_23 (fun r23 enx hw => ?_)
  obtain ⟨rfl, rfl⟩ := hw
  refine G_if_ne hC 32 dX1_tellTry_26 (by decide) (fun c26 => ?_) (fun c26 => ?_)
  · have h := ifn c26 h
    refine G_aload_n hC 0 0 rfl rfl dX1_tellTry_32 ?_
    refine G_get hC inX1 kk (by omega) (v := .ref (ad (kk + 3))) (H_sg 0 (by decide)) rfl 1 (by decide) m20 rfl rfl dX1_tellTry_33 ?_
    obtain ⟨q36, h36, h⟩ := bnd h
    refine G_cVi (st := []) hC _ (kk + 3) (by omega) (c_X8_addRow (pp := kk + 3) l (by omega) (H_sg 3 (by decide)) h36) (cwV 0 hC.hts gX1_tellTry_X8_addRow rfl rfl rfl (by decide +kernel) ⟨Nat.le_of_ble_eq_true rfl, Nat.le_of_ble_eq_true rfl⟩) (H_sg 3 (by decide)) rfl rfl (Nat.le_of_ble_eq_true rfl) (Nat.zero_le _) (Nat.zero_le _) rfl dX1_tellTry_36 (fun r36 en2 hw => ?_)
    obtain ⟨rfl, t_T, fr⟩ := hw
    have H_sg : Hall cs ad en2 kk (hsR sg 1 q36.2) := H_sg.upR1 t_T fr
    have hfr : ∀ j, (j < kk ∨ kk + 11 ≤ j) → en2 j = en j := fun j o0 => (fr j (by omega)).trans (hfr j o0)
    refine G_istore hC 4 [(4, .int q36.1), (0, .ref (ad kk)), (1, .int x1), (2, .int x2), (3, .int x3)] (by decide) rfl dX1_tellTry_39 ?_
    refine G_iload hC 4 0 rfl dX1_tellTry_41 ?_
    refine G_if_lt hC 82 dX1_tellTry_43 (by decide) (fun c43 => ?_) (fun c43 => ?_)
    · have h := ifp c43 h
      refine G_iload hC 4 0 rfl dX1_tellTry_82 ?_
      have h := Option.some.inj h
      subst h
      exact Kr _ _ _ _ (nar_i _) ⟨rfl, H_sg, hfr⟩ dX1_tellTry_84
    have h := ifn c43 h
    refine G_aload_n hC 0 1 rfl rfl dX1_tellTry_46 ?_
    refine G_get hC inX1 kk (by omega) (v := .ref (ad (kk + 3))) (H_sg 0 (by decide)) rfl 1 (by decide) m20 rfl rfl dX1_tellTry_47 ?_
    refine G_iload hC 4 0 rfl dX1_tellTry_50 ?_
    refine G_iconst hC (v := 0) (by decide) dX1_tellTry_52 ?_
    refine G_iload_n hC 1 2 rfl rfl dX1_tellTry_53 ?_
    refine G_i2l hC dX1_tellTry_54 ?_
    obtain ⟨q55, h55, h⟩ := bnd h
    refine G_cVv (st := []) hC _ (kk + 3) (by omega) (c_X8_set (pp := kk + 3) l (by omega) (H_sg 3 (by decide)) (H_sg 4 (by decide)) h55) (cwV 3 hC.hts gX1_tellTry_X8_set rfl rfl rfl (by decide +kernel) ⟨Nat.le_of_ble_eq_true rfl, Nat.le_of_ble_eq_true rfl⟩) (H_sg 3 (by decide)) rfl rfl (Nat.le_of_ble_eq_true rfl) (Nat.zero_le _) (Nat.zero_le _) rfl dX1_tellTry_55 (fun en3 hw => ?_)
    obtain ⟨t_Tc, fr⟩ := hw
    have H_sg : Hall cs ad en3 kk (hsC (hsR sg 1 q36.2) 1 q55) := H_sg.upC1 t_Tc fr
    have hfr : ∀ j, (j < kk ∨ kk + 11 ≤ j) → en3 j = en j := fun j o0 => (fr j (by omega)).trans (hfr j o0)
    refine G_aload_n hC 0 1 rfl rfl dX1_tellTry_58 ?_
    refine G_get hC inX1 kk (by omega) (v := .ref (ad (kk + 3))) (H_sg 0 (by decide)) rfl 1 (by decide) m20 rfl rfl dX1_tellTry_59 ?_
    refine G_iload hC 4 0 rfl dX1_tellTry_62 ?_
    refine G_iconst hC (v := 1) (by decide) dX1_tellTry_64 ?_
    refine G_iload_n hC 2 3 rfl rfl dX1_tellTry_65 ?_
    refine G_i2l hC dX1_tellTry_66 ?_
    obtain ⟨q67, h67, h⟩ := bnd h
    refine G_cVv (st := []) hC _ (kk + 3) (by omega) (c_X8_set (pp := kk + 3) l (by omega) (H_sg 3 (by decide)) (H_sg 4 (by decide)) h67) (cwV 3 hC.hts gX1_tellTry_X8_set rfl rfl rfl (by decide +kernel) ⟨Nat.le_of_ble_eq_true rfl, Nat.le_of_ble_eq_true rfl⟩) (H_sg 3 (by decide)) rfl rfl (Nat.le_of_ble_eq_true rfl) (Nat.zero_le _) (Nat.zero_le _) rfl dX1_tellTry_67 (fun en4 hw => ?_)
    obtain ⟨t_Tc, fr⟩ := hw
    have H_sg : Hall cs ad en4 kk (hsC (hsC (hsR sg 1 q36.2) 1 q55) 1 q67) := H_sg.upC1 t_Tc fr
    have hfr : ∀ j, (j < kk ∨ kk + 11 ≤ j) → en4 j = en j := fun j o0 => (fr j (by omega)).trans (hfr j o0)
    refine G_aload_n hC 0 1 rfl rfl dX1_tellTry_70 ?_
    refine G_get hC inX1 kk (by omega) (v := .ref (ad (kk + 3))) (H_sg 0 (by decide)) rfl 1 (by decide) m20 rfl rfl dX1_tellTry_71 ?_
    refine G_iload hC 4 0 rfl dX1_tellTry_74 ?_
    refine G_iconst hC (v := 2) (by decide) dX1_tellTry_76 ?_
    refine G_iload_n hC 3 4 rfl rfl dX1_tellTry_77 ?_
    refine G_i2l hC dX1_tellTry_78 ?_
    obtain ⟨q79, h79, h⟩ := bnd h
    refine G_cVv (st := []) hC _ (kk + 3) (by omega) (c_X8_set (pp := kk + 3) l (by omega) (H_sg 3 (by decide)) (H_sg 4 (by decide)) h79) (cwV 3 hC.hts gX1_tellTry_X8_set rfl rfl rfl (by decide +kernel) ⟨Nat.le_of_ble_eq_true rfl, Nat.le_of_ble_eq_true rfl⟩) (H_sg 3 (by decide)) rfl rfl (Nat.le_of_ble_eq_true rfl) (Nat.zero_le _) (Nat.zero_le _) rfl dX1_tellTry_79 (fun en5 hw => ?_)
    obtain ⟨t_Tc, fr⟩ := hw
    have H_sg : Hall cs ad en5 kk (hsC (hsC (hsC (hsR sg 1 q36.2) 1 q55) 1 q67) 1 q79) := H_sg.upC1 t_Tc fr
    have hfr : ∀ j, (j < kk ∨ kk + 11 ≤ j) → en5 j = en j := fun j o0 => (fr j (by omega)).trans (hfr j o0)
    refine G_iload hC 4 0 rfl dX1_tellTry_82 ?_
    have h := Option.some.inj h
    subst h
    exact Kr _ _ _ _ (nar_i _) ⟨rfl, H_sg, hfr⟩ dX1_tellTry_84
  have h := ifp c26 h
  refine G_bipush hC (v := (-2)) (by decide) dX1_tellTry_29 ?_
  have h := Option.some.inj h
  subst h
  exact Kr _ _ _ _ (nar_i _) ⟨rfl, H_sg, hfr⟩ dX1_tellTry_31
def f_X1_tellQuestion (sg : HallV) (x1 : Int32) (x2 : Int32) : Option (Int32 × HallV) := Option.bind (f_X1_isPart x1) (fun q1 => if q1 = 0 then (some ((-2 : Int32), sg)) else (Option.bind (f_X10_within x2 (0 : Int32) (9 : Int32)) (fun q11 => if q11 = 0 then (some ((-2 : Int32), sg)) else (Option.bind (f_X8_addRow (6 : Int32) (sg.1 2)) (fun q24 => if q24.1 < 0 then (some (q24.1, hsR sg 2 q24.2)) else (Option.bind (f_X8_set (2 : Int32) 12 ((hsR sg 2 q24.2).2.1 2) q24.1 (0 : Int32) x1.toInt64) (fun q40 => Option.bind (f_X8_set (2 : Int32) 12 ((hsC (hsR sg 2 q24.2) 2 q40).2.1 2) q24.1 (1 : Int32) x2.toInt64) (fun q51 => some (q24.1, hsC (hsC (hsR sg 2 q24.2) 2 q40) 2 q51)))))))))
set_option maxHeartbeats 4000000 in
set_option maxRecDepth 100000 in
theorem c_X1_tellQuestion {D : va_G} {cs : Nat → ClassId} {sa : Nat → Nat} {n : Nat} {ad : Nat → Nat} {A : Nat → Prop} (l : Launch) {en : Nat → va_E} {kk : Nat} {sg : HallV} {x1 : Int32} {x2 : Int32}  {q : Int32 × HallV} (hkn : kk + 11 ≤ n) (H_sg : Hall cs ad en kk sg) (h : f_X1_tellQuestion sg x1 x2 = some q) : Met l yX1_tellQuestion wsX1_tellQuestion { frames := 2, cells := 0, slots := 0, locals := 42 } (va_Pc [.ref (ad kk), .int x1, .int x2] (Wd D cs sa n ad A en)) (va_Qi (fun r u => q.1 = r ∧ Hall cs ad u kk q.2 ∧ (∀ j, (j < kk ∨ kk + 11 ≤ j) → u j = en j)) (Wd D cs sa n ad A) A) 0 0 A := by
  refine G_startI cX1_tellQuestion 4 [(0, .ref (ad kk)), (1, .int x1), (2, .int x2)] (by decide) rfl (Nat.le_of_ble_eq_true rfl) rfl ?_
  intro p e s m args below meth c Q hC hnm Kr
  have inX1 : ∀ w ∈ u_ws RX1 TX1 6, w ∈ wsX1_tellQuestion := by decide +kernel
  have m23 : Cond.fieldLink RX1 23 "TongueTip$Hall" "questions" "LTongueTip$Table;" ∈ wsX1_tellQuestion := by decide +kernel
  have zi_X10_within : Cond.initialized RX10 ∈ wsX1_tellQuestion := by decide +kernel
  have zs_X10_within : Cond.static yX10_within ∈ wsX1_tellQuestion := by decide +kernel
  unfold f_X1_tellQuestion at h
  have hfr : ∀ j, (j < kk ∨ kk + 11 ≤ j) → en j = en j := fun _ _ => rfl
  refine G_iload_n hC 1 1 rfl rfl dX1_tellQuestion_0 ?_
  obtain ⟨q1, h1, h⟩ := bnd h
  refine G_cSi (st := []) hC _ (c_X1_isPart  l  h1) (va_cwS 1 hC.hts gX1_tellQuestion_X1_isPart rfl rfl rfl (by decide +kernel) ⟨Nat.le_of_ble_eq_true rfl, Nat.le_of_ble_eq_true rfl⟩) rfl (Nat.le_of_ble_eq_true rfl) (Nat.zero_le _) (Nat.zero_le _) rfl dX1_tellQuestion_1 (fun r1 enx hw => ?_)
  obtain ⟨rfl, rfl⟩ := hw
  refine G_if_eq hC 17 dX1_tellQuestion_4 (by decide) (fun c4 => ?_) (fun c4 => ?_)
  · have h := ifp c4 h
    refine G_bipush hC (v := (-2)) (by decide) dX1_tellQuestion_17 ?_
    have h := Option.some.inj h
    subst h
    exact Kr _ _ _ _ (nar_i _) ⟨rfl, H_sg, hfr⟩ dX1_tellQuestion_19
  have h := ifn c4 h
  refine G_iload_n hC 2 2 rfl rfl dX1_tellQuestion_7 ?_
  refine G_iconst hC (v := 0) (by decide) dX1_tellQuestion_8 ?_
  refine G_bipush hC (v := 9) (by decide) dX1_tellQuestion_9 ?_
  obtain ⟨q11, h11, h⟩ := bnd h
  refine G_cNi (st := []) hC _ (c_X10_within  l  h11) ⟨va_cnB 3 hC.hts gX1_tellQuestion_X10_within_n78 rfl rfl rfl (hC.2.2.2.1 ("TongueTip$Hall", 78, yX10_within, "TongueTip") (List.mem_of_getElem? (i := 1) rfl)) (hC.hts _ zi_X10_within) (by decide +kernel) ⟨Nat.le_of_ble_eq_true rfl, Nat.le_of_ble_eq_true rfl⟩, hC.hts _ zs_X10_within, trivial⟩ rfl (Nat.le_of_ble_eq_true rfl) (Nat.zero_le _) (Nat.zero_le _) rfl dX1_tellQuestion_11 (fun r11 enx hw => ?_)
  obtain ⟨rfl, rfl⟩ := hw
  refine G_if_ne hC 20 dX1_tellQuestion_14 (by decide) (fun c14 => ?_) (fun c14 => ?_)
  · have h := ifn c14 h
    refine G_aload_n hC 0 0 rfl rfl dX1_tellQuestion_20 ?_
    refine G_get hC inX1 kk (by omega) (v := .ref (ad (kk + 5))) (H_sg 0 (by decide)) rfl 2 (by decide) m23 rfl rfl dX1_tellQuestion_21 ?_
    obtain ⟨q24, h24, h⟩ := bnd h
    refine G_cVi (st := []) hC _ (kk + 5) (by omega) (c_X8_addRow (pp := kk + 5) l (by omega) (H_sg 5 (by decide)) h24) (cwV 0 hC.hts gX1_tellQuestion_X8_addRow rfl rfl rfl (by decide +kernel) ⟨Nat.le_of_ble_eq_true rfl, Nat.le_of_ble_eq_true rfl⟩) (H_sg 5 (by decide)) rfl rfl (Nat.le_of_ble_eq_true rfl) (Nat.zero_le _) (Nat.zero_le _) rfl dX1_tellQuestion_24 (fun r24 en2 hw => ?_)
    obtain ⟨rfl, t_T, fr⟩ := hw
    have H_sg : Hall cs ad en2 kk (hsR sg 2 q24.2) := H_sg.upR2 t_T fr
    have hfr : ∀ j, (j < kk ∨ kk + 11 ≤ j) → en2 j = en j := fun j o0 => (fr j (by omega)).trans (hfr j o0)
    refine G_istore_n hC 3 [(3, .int q24.1), (0, .ref (ad kk)), (1, .int x1), (2, .int x2)] rfl (by decide) rfl dX1_tellQuestion_27 ?_
    refine G_iload_n hC 3 0 rfl rfl dX1_tellQuestion_28 ?_
    refine G_if_lt hC 54 dX1_tellQuestion_29 (by decide) (fun c29 => ?_) (fun c29 => ?_)
    · have h := ifp c29 h
      refine G_iload_n hC 3 0 rfl rfl dX1_tellQuestion_54 ?_
      have h := Option.some.inj h
      subst h
      exact Kr _ _ _ _ (nar_i _) ⟨rfl, H_sg, hfr⟩ dX1_tellQuestion_55
    have h := ifn c29 h
    refine G_aload_n hC 0 1 rfl rfl dX1_tellQuestion_32 ?_
    refine G_get hC inX1 kk (by omega) (v := .ref (ad (kk + 5))) (H_sg 0 (by decide)) rfl 2 (by decide) m23 rfl rfl dX1_tellQuestion_33 ?_
    refine G_iload_n hC 3 0 rfl rfl dX1_tellQuestion_36 ?_
    refine G_iconst hC (v := 0) (by decide) dX1_tellQuestion_37 ?_
    refine G_iload_n hC 1 2 rfl rfl dX1_tellQuestion_38 ?_
    refine G_i2l hC dX1_tellQuestion_39 ?_
    obtain ⟨q40, h40, h⟩ := bnd h
    refine G_cVv (st := []) hC _ (kk + 5) (by omega) (c_X8_set (pp := kk + 5) l (by omega) (H_sg 5 (by decide)) (H_sg 6 (by decide)) h40) (cwV 3 hC.hts gX1_tellQuestion_X8_set rfl rfl rfl (by decide +kernel) ⟨Nat.le_of_ble_eq_true rfl, Nat.le_of_ble_eq_true rfl⟩) (H_sg 5 (by decide)) rfl rfl (Nat.le_of_ble_eq_true rfl) (Nat.zero_le _) (Nat.zero_le _) rfl dX1_tellQuestion_40 (fun en3 hw => ?_)
    obtain ⟨t_Tc, fr⟩ := hw
    have H_sg : Hall cs ad en3 kk (hsC (hsR sg 2 q24.2) 2 q40) := H_sg.upC2 t_Tc fr
    have hfr : ∀ j, (j < kk ∨ kk + 11 ≤ j) → en3 j = en j := fun j o0 => (fr j (by omega)).trans (hfr j o0)
    refine G_aload_n hC 0 1 rfl rfl dX1_tellQuestion_43 ?_
    refine G_get hC inX1 kk (by omega) (v := .ref (ad (kk + 5))) (H_sg 0 (by decide)) rfl 2 (by decide) m23 rfl rfl dX1_tellQuestion_44 ?_
    refine G_iload_n hC 3 0 rfl rfl dX1_tellQuestion_47 ?_
    refine G_iconst hC (v := 1) (by decide) dX1_tellQuestion_48 ?_
    refine G_iload_n hC 2 3 rfl rfl dX1_tellQuestion_49 ?_
    refine G_i2l hC dX1_tellQuestion_50 ?_
    obtain ⟨q51, h51, h⟩ := bnd h
    refine G_cVv (st := []) hC _ (kk + 5) (by omega) (c_X8_set (pp := kk + 5) l (by omega) (H_sg 5 (by decide)) (H_sg 6 (by decide)) h51) (cwV 3 hC.hts gX1_tellQuestion_X8_set rfl rfl rfl (by decide +kernel) ⟨Nat.le_of_ble_eq_true rfl, Nat.le_of_ble_eq_true rfl⟩) (H_sg 5 (by decide)) rfl rfl (Nat.le_of_ble_eq_true rfl) (Nat.zero_le _) (Nat.zero_le _) rfl dX1_tellQuestion_51 (fun en4 hw => ?_)
    obtain ⟨t_Tc, fr⟩ := hw
    have H_sg : Hall cs ad en4 kk (hsC (hsC (hsR sg 2 q24.2) 2 q40) 2 q51) := H_sg.upC2 t_Tc fr
    have hfr : ∀ j, (j < kk ∨ kk + 11 ≤ j) → en4 j = en j := fun j o0 => (fr j (by omega)).trans (hfr j o0)
    refine G_iload_n hC 3 0 rfl rfl dX1_tellQuestion_54 ?_
    have h := Option.some.inj h
    subst h
    exact Kr _ _ _ _ (nar_i _) ⟨rfl, H_sg, hfr⟩ dX1_tellQuestion_55
  have h := ifp c14 h
  refine G_bipush hC (v := (-2)) (by decide) dX1_tellQuestion_17 ?_
  have h := Option.some.inj h
  subst h
  exact Kr _ _ _ _ (nar_i _) ⟨rfl, H_sg, hfr⟩ dX1_tellQuestion_19
def f_X1_setting (sg : HallV) (x1 : Int32) : Option (Int32) := Option.bind (f_X8_number (8 : Int32) 8 (sg.2.1 3) (0 : Int32) x1) (fun q6 => some q6)
set_option maxHeartbeats 4000000 in
set_option maxRecDepth 100000 in
theorem c_X1_setting {D : va_G} {cs : Nat → ClassId} {sa : Nat → Nat} {n : Nat} {ad : Nat → Nat} {A : Nat → Prop} (l : Launch) {en : Nat → va_E} {kk : Nat} {sg : HallV} {x1 : Int32}  {q : Int32} (hkn : kk + 11 ≤ n) (H_sg : Hall cs ad en kk sg) (h : f_X1_setting sg x1 = some q) : Met l yX1_setting wsX1_setting { frames := 1, cells := 0, slots := 0, locals := 23 } (va_Pc [.ref (ad kk), .int x1] (Wd D cs sa n ad A en)) (va_Qi (fun r u => q = r ∧ en = u) (Wd D cs sa n ad A) A) 0 0 A := by
  refine G_startI cX1_setting 2 [(0, .ref (ad kk)), (1, .int x1)] (by decide) rfl (Nat.le_of_ble_eq_true rfl) rfl ?_
  intro p e s m args below meth c Q hC hnm Kr
  have inX1 : ∀ w ∈ u_ws RX1 TX1 6, w ∈ wsX1_setting := by decide +kernel
  have m26 : Cond.fieldLink RX1 26 "TongueTip$Hall" "settings" "LTongueTip$Table;" ∈ wsX1_setting := by decide +kernel
  unfold f_X1_setting at h
  refine G_aload_n hC 0 0 rfl rfl dX1_setting_0 ?_
  refine G_get hC inX1 kk (by omega) (v := .ref (ad (kk + 7))) (H_sg 0 (by decide)) rfl 3 (by decide) m26 rfl rfl dX1_setting_1 ?_
  refine G_iconst hC (v := 0) (by decide) dX1_setting_4 ?_
  refine G_iload_n hC 1 1 rfl rfl dX1_setting_5 ?_
  obtain ⟨q6, h6, h⟩ := bnd h
  refine G_cVi (st := []) hC _ (kk + 7) (by omega) (c_X8_number (pp := kk + 7) l (by omega) (H_sg 7 (by decide)) (H_sg 8 (by decide)) h6) (cwV 2 hC.hts gX1_setting_X8_number rfl rfl rfl (by decide +kernel) ⟨Nat.le_of_ble_eq_true rfl, Nat.le_of_ble_eq_true rfl⟩) (H_sg 7 (by decide)) rfl rfl (Nat.le_of_ble_eq_true rfl) (Nat.zero_le _) (Nat.zero_le _) rfl dX1_setting_6 (fun r6 enx hw => ?_)
  obtain ⟨rfl, rfl⟩ := hw
  have h := Option.some.inj h
  subst h
  exact Kr _ _ _ _ (nar_i _) ⟨rfl, rfl⟩ dX1_setting_9
def f_X1_tellSetting (sg : HallV) (x1 : Int32) (x2 : Int32) : Option (Int32 × HallV) := Option.bind (f_X10_within x1 (0 : Int32) (7 : Int32)) (fun q4 => if q4 = 0 then (some ((-2 : Int32), sg)) else (Option.bind (f_X10_at_s 1 x1) (fun q15 => Option.bind (f_X10_at_s 2 x1) (fun q22 => Option.bind (f_X10_within x2 q15 q22) (fun q25 => if q25 = 0 then (some ((-2 : Int32), sg)) else (Option.bind (f_X1_setting sg x1) (fun q36 => Option.bind (f_X8_set (8 : Int32) 8 (sg.2.1 3) (0 : Int32) x1 x2.toInt64) (fun q48 => some (q36, hsC sg 3 q48)))))))))
set_option maxHeartbeats 4000000 in
set_option maxRecDepth 100000 in
theorem c_X1_tellSetting {D : va_G} {cs : Nat → ClassId} {sa : Nat → Nat} {n : Nat} {ad : Nat → Nat} {A : Nat → Prop} (l : Launch) {en : Nat → va_E} {kk : Nat} {sg : HallV} {x1 : Int32} {x2 : Int32}  {q : Int32 × HallV} (hkn : kk + 11 ≤ n) (H_sg : Hall cs ad en kk sg) (h : f_X1_tellSetting sg x1 x2 = some q) : Met l yX1_tellSetting wsX1_tellSetting { frames := 2, cells := 0, slots := 0, locals := 44 } (va_Pc [.ref (ad kk), .int x1, .int x2] (Wd D cs sa n ad A en)) (va_Qi (fun r u => q.1 = r ∧ Hall cs ad u kk q.2 ∧ (∀ j, (j < kk ∨ kk + 11 ≤ j) → u j = en j)) (Wd D cs sa n ad A) A) 0 0 A := by
  refine G_startI cX1_tellSetting 4 [(0, .ref (ad kk)), (1, .int x1), (2, .int x2)] (by decide) rfl (Nat.le_of_ble_eq_true rfl) rfl ?_
  intro p e s m args below meth c Q hC hnm Kr
  have inX1 : ∀ w ∈ u_ws RX1 TX1 6, w ∈ wsX1_tellSetting := by decide +kernel
  have m26 : Cond.fieldLink RX1 26 "TongueTip$Hall" "settings" "LTongueTip$Table;" ∈ wsX1_tellSetting := by decide +kernel
  have m88 : Cond.fieldLink RX1 88 "TongueTip$Hall" "SETTING_LEAST" "[I" ∈ wsX1_tellSetting := by decide +kernel
  have m91 : Cond.fieldLink RX1 91 "TongueTip$Hall" "SETTING_MOST" "[I" ∈ wsX1_tellSetting := by decide +kernel
  have zi_X10_at : Cond.initialized RX10 ∈ wsX1_tellSetting := by decide +kernel
  have zi_X10_within : Cond.initialized RX10 ∈ wsX1_tellSetting := by decide +kernel
  have zs_X10_at : Cond.static yX10_at ∈ wsX1_tellSetting := by decide +kernel
  have zs_X10_within : Cond.static yX10_within ∈ wsX1_tellSetting := by decide +kernel
  unfold f_X1_tellSetting at h
  have hfr : ∀ j, (j < kk ∨ kk + 11 ≤ j) → en j = en j := fun _ _ => rfl
  refine G_iload_n hC 1 1 rfl rfl dX1_tellSetting_0 ?_
  refine G_iconst hC (v := 0) (by decide) dX1_tellSetting_1 ?_
  refine G_bipush hC (v := 7) (by decide) dX1_tellSetting_2 ?_
  obtain ⟨q4, h4, h⟩ := bnd h
  refine G_cNi (st := []) hC _ (c_X10_within  l  h4) ⟨va_cnB 3 hC.hts gX1_tellSetting_X10_within_n78 rfl rfl rfl (hC.2.2.2.1 ("TongueTip$Hall", 78, yX10_within, "TongueTip") (List.mem_of_getElem? (i := 1) rfl)) (hC.hts _ zi_X10_within) (by decide +kernel) ⟨Nat.le_of_ble_eq_true rfl, Nat.le_of_ble_eq_true rfl⟩, hC.hts _ zs_X10_within, trivial⟩ rfl (Nat.le_of_ble_eq_true rfl) (Nat.zero_le _) (Nat.zero_le _) rfl dX1_tellSetting_4 (fun r4 enx hw => ?_)
  obtain ⟨rfl, rfl⟩ := hw
  refine G_if_eq hC 31 dX1_tellSetting_7 (by decide) (fun c7 => ?_) (fun c7 => ?_)
  · have h := ifp c7 h
    refine G_bipush hC (v := (-2)) (by decide) dX1_tellSetting_31 ?_
    have h := Option.some.inj h
    subst h
    exact Kr _ _ _ _ (nar_i _) ⟨rfl, H_sg, hfr⟩ dX1_tellSetting_33
  have h := ifn c7 h
  refine G_iload_n hC 2 2 rfl rfl dX1_tellSetting_10 ?_
  refine G_gets hC 1 (by decide) m88 dX1_tellSetting_11 ?_
  refine G_iload_n hC 1 1 rfl rfl dX1_tellSetting_14 ?_
  obtain ⟨q15, h15, h⟩ := bnd h
  refine G_cNi (st := [.int x2]) hC _ (c_X10_at_s (ist := 1) l (by omega) h15) ⟨va_cnB 2 hC.hts gX1_tellSetting_X10_at_n50 rfl rfl rfl (hC.2.2.2.1 ("TongueTip$Hall", 50, yX10_at, "TongueTip") (List.mem_of_getElem? (i := 0) rfl)) (hC.hts _ zi_X10_at) (by decide +kernel) ⟨Nat.le_of_ble_eq_true rfl, Nat.le_of_ble_eq_true rfl⟩, hC.hts _ zs_X10_at, trivial⟩ rfl (Nat.le_of_ble_eq_true rfl) (Nat.zero_le _) (Nat.zero_le _) rfl dX1_tellSetting_15 (fun r15 enx hw => ?_)
  obtain ⟨rfl, rfl⟩ := hw
  refine G_gets hC 2 (by decide) m91 dX1_tellSetting_18 ?_
  refine G_iload_n hC 1 1 rfl rfl dX1_tellSetting_21 ?_
  obtain ⟨q22, h22, h⟩ := bnd h
  refine G_cNi (st := [.int q15, .int x2]) hC _ (c_X10_at_s (ist := 2) l (by omega) h22) ⟨va_cnB 2 hC.hts gX1_tellSetting_X10_at_n50 rfl rfl rfl (hC.2.2.2.1 ("TongueTip$Hall", 50, yX10_at, "TongueTip") (List.mem_of_getElem? (i := 0) rfl)) (hC.hts _ zi_X10_at) (by decide +kernel) ⟨Nat.le_of_ble_eq_true rfl, Nat.le_of_ble_eq_true rfl⟩, hC.hts _ zs_X10_at, trivial⟩ rfl (Nat.le_of_ble_eq_true rfl) (Nat.zero_le _) (Nat.zero_le _) rfl dX1_tellSetting_22 (fun r22 enx hw => ?_)
  obtain ⟨rfl, rfl⟩ := hw
  obtain ⟨q25, h25, h⟩ := bnd h
  refine G_cNi (st := []) hC _ (c_X10_within  l  h25) ⟨va_cnB 3 hC.hts gX1_tellSetting_X10_within_n78 rfl rfl rfl (hC.2.2.2.1 ("TongueTip$Hall", 78, yX10_within, "TongueTip") (List.mem_of_getElem? (i := 1) rfl)) (hC.hts _ zi_X10_within) (by decide +kernel) ⟨Nat.le_of_ble_eq_true rfl, Nat.le_of_ble_eq_true rfl⟩, hC.hts _ zs_X10_within, trivial⟩ rfl (Nat.le_of_ble_eq_true rfl) (Nat.zero_le _) (Nat.zero_le _) rfl dX1_tellSetting_25 (fun r25 enx hw => ?_)
  obtain ⟨rfl, rfl⟩ := hw
  refine G_if_ne hC 34 dX1_tellSetting_28 (by decide) (fun c28 => ?_) (fun c28 => ?_)
  · have h := ifn c28 h
    refine G_aload_n hC 0 0 rfl rfl dX1_tellSetting_34 ?_
    refine G_iload_n hC 1 1 rfl rfl dX1_tellSetting_35 ?_
    obtain ⟨q36, h36, h⟩ := bnd h
    refine G_cVi (st := []) hC _ kk (by omega) (c_X1_setting (kk := kk) l (by omega) H_sg h36) (cwV 1 hC.hts gX1_tellSetting_X1_setting rfl rfl rfl (by decide +kernel) ⟨Nat.le_of_ble_eq_true rfl, Nat.le_of_ble_eq_true rfl⟩) (H_sg 0 (by decide)) rfl rfl (Nat.le_of_ble_eq_true rfl) (Nat.zero_le _) (Nat.zero_le _) rfl dX1_tellSetting_36 (fun r36 enx hw => ?_)
    obtain ⟨rfl, rfl⟩ := hw
    refine G_istore_n hC 3 [(3, .int q36), (0, .ref (ad kk)), (1, .int x1), (2, .int x2)] rfl (by decide) rfl dX1_tellSetting_39 ?_
    refine G_aload_n hC 0 1 rfl rfl dX1_tellSetting_40 ?_
    refine G_get hC inX1 kk (by omega) (v := .ref (ad (kk + 7))) (H_sg 0 (by decide)) rfl 3 (by decide) m26 rfl rfl dX1_tellSetting_41 ?_
    refine G_iconst hC (v := 0) (by decide) dX1_tellSetting_44 ?_
    refine G_iload_n hC 1 2 rfl rfl dX1_tellSetting_45 ?_
    refine G_iload_n hC 2 3 rfl rfl dX1_tellSetting_46 ?_
    refine G_i2l hC dX1_tellSetting_47 ?_
    obtain ⟨q48, h48, h⟩ := bnd h
    refine G_cVv (st := []) hC _ (kk + 7) (by omega) (c_X8_set (pp := kk + 7) l (by omega) (H_sg 7 (by decide)) (H_sg 8 (by decide)) h48) (cwV 3 hC.hts gX1_tellSetting_X8_set rfl rfl rfl (by decide +kernel) ⟨Nat.le_of_ble_eq_true rfl, Nat.le_of_ble_eq_true rfl⟩) (H_sg 7 (by decide)) rfl rfl (Nat.le_of_ble_eq_true rfl) (Nat.zero_le _) (Nat.zero_le _) rfl dX1_tellSetting_48 (fun en2 hw => ?_)
    obtain ⟨t_Tc, fr⟩ := hw
    have H_sg : Hall cs ad en2 kk (hsC sg 3 q48) := H_sg.upC3 t_Tc fr
    have hfr : ∀ j, (j < kk ∨ kk + 11 ≤ j) → en2 j = en j := fun j o0 => (fr j (by omega)).trans (hfr j o0)
    refine G_iload_n hC 3 0 rfl rfl dX1_tellSetting_51 ?_
    have h := Option.some.inj h
    subst h
    exact Kr _ _ _ _ (nar_i _) ⟨rfl, H_sg, hfr⟩ dX1_tellSetting_52
  have h := ifp c28 h
  refine G_bipush hC (v := (-2)) (by decide) dX1_tellSetting_31 ?_
  have h := Option.some.inj h
  subst h
  exact Kr _ _ _ _ (nar_i _) ⟨rfl, H_sg, hfr⟩ dX1_tellSetting_33
def f_X1_law (sg : HallV) (x1 : Int32) : Option (Int32) := if x1 ≤ 0 then (some (0 : Int32)) else (Option.bind (f_X1_setting sg ((2 : Int32) + x1)) (fun q8 => some q8))
set_option maxHeartbeats 4000000 in
set_option maxRecDepth 100000 in
theorem c_X1_law {D : va_G} {cs : Nat → ClassId} {sa : Nat → Nat} {n : Nat} {ad : Nat → Nat} {A : Nat → Prop} (l : Launch) {en : Nat → va_E} {kk : Nat} {sg : HallV} {x1 : Int32}  {q : Int32} (hkn : kk + 11 ≤ n) (H_sg : Hall cs ad en kk sg) (h : f_X1_law sg x1 = some q) : Met l yX1_law wsX1_law { frames := 2, cells := 0, slots := 0, locals := 44 } (va_Pc [.ref (ad kk), .int x1] (Wd D cs sa n ad A en)) (va_Qi (fun r u => q = r ∧ en = u) (Wd D cs sa n ad A) A) 0 0 A := by
  refine G_startI cX1_law 2 [(0, .ref (ad kk)), (1, .int x1)] (by decide) rfl (Nat.le_of_ble_eq_true rfl) rfl ?_
  intro p e s m args below meth c Q hC hnm Kr
  unfold f_X1_law at h
  refine G_iload_n hC 1 1 rfl rfl dX1_law_0 ?_
  refine G_if_le hC 14 dX1_law_1 (by decide) (fun c1 => ?_) (fun c1 => ?_)
  · have h := ifp c1 h
    refine G_iconst hC (v := 0) (by decide) dX1_law_14 ?_
    have h := Option.some.inj h
    subst h
    exact Kr _ _ _ _ (nar_i _) ⟨rfl, rfl⟩ dX1_law_15
  have h := ifn c1 h
  refine G_aload_n hC 0 0 rfl rfl dX1_law_4 ?_
  refine G_iconst hC (v := 2) (by decide) dX1_law_5 ?_
  refine G_iload_n hC 1 1 rfl rfl dX1_law_6 ?_
  refine G_iadd hC dX1_law_7 ?_
  obtain ⟨q8, h8, h⟩ := bnd h
  refine G_cVi (st := []) hC _ kk (by omega) (c_X1_setting (kk := kk) l (by omega) H_sg h8) (cwV 1 hC.hts gX1_law_X1_setting rfl rfl rfl (by decide +kernel) ⟨Nat.le_of_ble_eq_true rfl, Nat.le_of_ble_eq_true rfl⟩) (H_sg 0 (by decide)) rfl rfl (Nat.le_of_ble_eq_true rfl) (Nat.zero_le _) (Nat.zero_le _) rfl dX1_law_8 (fun r8 enx hw => ?_)
  obtain ⟨rfl, rfl⟩ := hw
  refine G_goto hC 15 dX1_law_11 (by decide) ?_
  have h := Option.some.inj h
  subst h
  exact Kr _ _ _ _ (nar_i _) ⟨rfl, rfl⟩ dX1_law_15
def f_X1_strengthLeft_B37 (sg : HallV)  (x1 : Int32) (s0 : Int32) : Option (Int32) := Option.bind (f_X8_number (7 : Int32) 84 (sg.2.1 0) x1 (4 : Int32)) (fun q46 => some (imax (0 : Int32) (q46 - s0)))
def f_X1_strengthLeft (sg : HallV) (x1 : Int32) (x2 : Int32) : Option (Int32) := Option.bind (f_X1_setting sg (1 : Int32)) (fun q2 => Option.bind (f_X8_number (7 : Int32) 84 (sg.2.1 0) x1 (6 : Int32)) (fun q19 => if q2 ≤ 0 then (f_X1_strengthLeft_B37 sg x1 (0 : Int32)) else (if q2 = 0 then none else (f_X1_strengthLeft_B37 sg x1 (((sg.2.2 + x2) - q19) / q2)))))
set_option maxHeartbeats 4000000 in
set_option maxRecDepth 100000 in
theorem c_X1_strengthLeft {D : va_G} {cs : Nat → ClassId} {sa : Nat → Nat} {n : Nat} {ad : Nat → Nat} {A : Nat → Prop} (l : Launch) {en : Nat → va_E} {kk : Nat} {sg : HallV} {x1 : Int32} {x2 : Int32}  {q : Int32} (hkn : kk + 11 ≤ n) (H_sg : Hall cs ad en kk sg) (h : f_X1_strengthLeft sg x1 x2 = some q) : Met l yX1_strengthLeft wsX1_strengthLeft { frames := 2, cells := 0, slots := 0, locals := 44 } (va_Pc [.ref (ad kk), .int x1, .int x2] (Wd D cs sa n ad A en)) (va_Qi (fun r u => q = r ∧ en = u) (Wd D cs sa n ad A) A) 0 0 A := by
  refine G_startI cX1_strengthLeft 6 [(0, .ref (ad kk)), (1, .int x1), (2, .int x2)] (by decide) rfl (Nat.le_of_ble_eq_true rfl) rfl ?_
  intro p e s m args below meth c Q hC hnm Kr
  have inX1 : ∀ w ∈ u_ws RX1 TX1 6, w ∈ wsX1_strengthLeft := by decide +kernel
  have m16 : Cond.fieldLink RX1 16 "TongueTip$Hall" "people" "LTongueTip$Table;" ∈ wsX1_strengthLeft := by decide +kernel
  have m39 : Cond.fieldLink RX1 39 "TongueTip$Hall" "day" "I" ∈ wsX1_strengthLeft := by decide +kernel
  have x102 : Cond.methodLink RX1 102 Lib.Math.max.name ∈ wsX1_strengthLeft := by decide +kernel
  have xcmax : Cond.code Lib.Math.max.name Lib.Math.max.code 2 (some .int) ∈ wsX1_strengthLeft := by decide +kernel
  have xi : Cond.initialized "java/lang/Math" ∈ wsX1_strengthLeft := by decide +kernel
  have xsmax : Cond.static Lib.Math.max.name ∈ wsX1_strengthLeft := by decide +kernel
  have hB37 : ∀ (x1 : Int32) (s0 : Int32), f_X1_strengthLeft_B37 sg x1 s0 = some q → G p l e ({ frames := 2, cells := 0, slots := 0, locals := 44 } : Room) s m args below meth c D n ad A 6 0 0 Q en 37 [(0, .ref (ad kk)), (1, .int x1)] [.int s0] := by
    intro x1 s0 h
    unfold f_X1_strengthLeft_B37 at h
    refine G_istore hC 5 [(5, .int s0), (0, .ref (ad kk)), (1, .int x1)] (by decide) rfl dX1_strengthLeft_37 ?_
    refine G_iconst hC (v := 0) (by decide) dX1_strengthLeft_39 ?_
    refine G_aload_n hC 0 1 rfl rfl dX1_strengthLeft_40 ?_
    refine G_get hC inX1 kk (by omega) (v := .ref (ad (kk + 1))) (H_sg 0 (by decide)) rfl 0 (by decide) m16 rfl rfl dX1_strengthLeft_41 ?_
    refine G_iload_n hC 1 2 rfl rfl dX1_strengthLeft_44 ?_
    refine G_iconst hC (v := 4) (by decide) dX1_strengthLeft_45 ?_
    obtain ⟨q46, h46, h⟩ := bnd h
    refine G_cVi (st := [.int (0 : Int32)]) hC _ (kk + 1) (by omega) (c_X8_number (pp := kk + 1) l (by omega) (H_sg 1 (by decide)) (H_sg 2 (by decide)) h46) (cwV 2 hC.hts gX1_strengthLeft_X8_number rfl rfl rfl (by decide +kernel) ⟨Nat.le_of_ble_eq_true rfl, Nat.le_of_ble_eq_true rfl⟩) (H_sg 1 (by decide)) rfl rfl (Nat.le_of_ble_eq_true rfl) (Nat.zero_le _) (Nat.zero_le _) rfl dX1_strengthLeft_46 (fun r46 enx hw => ?_)
    obtain ⟨rfl, rfl⟩ := hw
    refine G_iload hC 5 0 rfl dX1_strengthLeft_49 ?_
    refine G_isub hC dX1_strengthLeft_51 ?_
    refine G_mmax hC x102 xsmax xi xcmax (Nat.le_of_ble_eq_true rfl) (Nat.le_of_ble_eq_true rfl) (Nat.zero_le _) (Nat.zero_le _) dX1_strengthLeft_52 ?_
    have h := Option.some.inj h
    subst h
    exact Kr _ _ _ _ (nar_i _) ⟨rfl, rfl⟩ dX1_strengthLeft_55
  unfold f_X1_strengthLeft at h
  refine G_aload_n hC 0 0 rfl rfl dX1_strengthLeft_0 ?_
  refine G_iconst hC (v := 1) (by decide) dX1_strengthLeft_1 ?_
  obtain ⟨q2, h2, h⟩ := bnd h
  refine G_cVi (st := []) hC _ kk (by omega) (c_X1_setting (kk := kk) l (by omega) H_sg h2) (cwV 1 hC.hts gX1_strengthLeft_X1_setting rfl rfl rfl (by decide +kernel) ⟨Nat.le_of_ble_eq_true rfl, Nat.le_of_ble_eq_true rfl⟩) (H_sg 0 (by decide)) rfl rfl (Nat.le_of_ble_eq_true rfl) (Nat.zero_le _) (Nat.zero_le _) rfl dX1_strengthLeft_2 (fun r2 enx hw => ?_)
  obtain ⟨rfl, rfl⟩ := hw
  refine G_istore_n hC 3 [(3, .int q2), (0, .ref (ad kk)), (1, .int x1), (2, .int x2)] rfl (by decide) rfl dX1_strengthLeft_5 ?_
  refine G_aload_n hC 0 1 rfl rfl dX1_strengthLeft_6 ?_
  refine G_get hC inX1 kk (by omega) (v := .int sg.2.2) (H_sg 0 (by decide)) rfl 5 (by decide) m39 rfl rfl dX1_strengthLeft_7 ?_
  refine G_iload_n hC 2 3 rfl rfl dX1_strengthLeft_10 ?_
  refine G_iadd hC dX1_strengthLeft_11 ?_
  refine G_aload_n hC 0 1 rfl rfl dX1_strengthLeft_12 ?_
  refine G_get hC inX1 kk (by omega) (v := .ref (ad (kk + 1))) (H_sg 0 (by decide)) rfl 0 (by decide) m16 rfl rfl dX1_strengthLeft_13 ?_
  refine G_iload_n hC 1 2 rfl rfl dX1_strengthLeft_16 ?_
  refine G_bipush hC (v := 6) (by decide) dX1_strengthLeft_17 ?_
  obtain ⟨q19, h19, h⟩ := bnd h
  refine G_cVi (st := [.int (sg.2.2 + x2)]) hC _ (kk + 1) (by omega) (c_X8_number (pp := kk + 1) l (by omega) (H_sg 1 (by decide)) (H_sg 2 (by decide)) h19) (cwV 2 hC.hts gX1_strengthLeft_X8_number rfl rfl rfl (by decide +kernel) ⟨Nat.le_of_ble_eq_true rfl, Nat.le_of_ble_eq_true rfl⟩) (H_sg 1 (by decide)) rfl rfl (Nat.le_of_ble_eq_true rfl) (Nat.zero_le _) (Nat.zero_le _) rfl dX1_strengthLeft_19 (fun r19 enx hw => ?_)
  obtain ⟨rfl, rfl⟩ := hw
  refine G_isub hC dX1_strengthLeft_22 ?_
  refine G_istore hC 4 [(4, .int ((sg.2.2 + x2) - q19)), (3, .int q2), (0, .ref (ad kk)), (1, .int x1), (2, .int x2)] (by decide) rfl dX1_strengthLeft_23 ?_
  refine G_iload_n hC 3 1 rfl rfl dX1_strengthLeft_25 ?_
  refine G_if_le hC 36 dX1_strengthLeft_26 (by decide) (fun c26 => ?_) (fun c26 => ?_)
  · have h := ifp c26 h
    refine G_iconst hC (v := 0) (by decide) dX1_strengthLeft_36 ?_
    refine G_lv [2, 3] rfl ?_
    exact hB37 _ _ h
  have h := ifn c26 h
  refine G_iload hC 4 0 rfl dX1_strengthLeft_29 ?_
  refine G_iload_n hC 3 1 rfl rfl dX1_strengthLeft_31 ?_
  obtain ⟨g32, h⟩ := asn h
  refine G_idiv hC g32 dX1_strengthLeft_32 ?_
  refine G_goto hC 37 dX1_strengthLeft_33 (by decide) ?_
  refine G_lv [2, 3] rfl ?_
  exact hB37 _ _ h
def f_X1_thinkOf (sg : HallV) (x1 : Int32) : Option (Int32 × HallV) := Option.bind (f_X1_strengthLeft sg x1 (0 : Int32)) (fun q5 => Option.bind (f_X8_set (7 : Int32) 84 (sg.2.1 0) x1 (4 : Int32) ((imin (20 : Int32) (q5 + (3 : Int32))).toInt64)) (fun q22 => Option.bind (f_X8_set (7 : Int32) 84 ((hsC sg 0 q22).2.1 0) x1 (6 : Int32) (((hsC sg 0 q22).2.2).toInt64)) (fun q37 => some (imin (20 : Int32) (q5 + (3 : Int32)), hsC (hsC sg 0 q22) 0 q37))))
set_option maxHeartbeats 4000000 in
set_option maxRecDepth 100000 in
theorem c_X1_thinkOf {D : va_G} {cs : Nat → ClassId} {sa : Nat → Nat} {n : Nat} {ad : Nat → Nat} {A : Nat → Prop} (l : Launch) {en : Nat → va_E} {kk : Nat} {sg : HallV} {x1 : Int32}  {q : Int32 × HallV} (hkn : kk + 11 ≤ n) (H_sg : Hall cs ad en kk sg) (h : f_X1_thinkOf sg x1 = some q) : Met l yX1_thinkOf wsX1_thinkOf { frames := 3, cells := 0, slots := 0, locals := 69 } (va_Pc [.ref (ad kk), .int x1] (Wd D cs sa n ad A en)) (va_Qi (fun r u => q.1 = r ∧ Hall cs ad u kk q.2 ∧ (∀ j, (j < kk ∨ kk + 11 ≤ j) → u j = en j)) (Wd D cs sa n ad A) A) 0 0 A := by
  refine G_startI cX1_thinkOf 3 [(0, .ref (ad kk)), (1, .int x1)] (by decide) rfl (Nat.le_of_ble_eq_true rfl) rfl ?_
  intro p e s m args below meth c Q hC hnm Kr
  have inX1 : ∀ w ∈ u_ws RX1 TX1 6, w ∈ wsX1_thinkOf := by decide +kernel
  have m16 : Cond.fieldLink RX1 16 "TongueTip$Hall" "people" "LTongueTip$Table;" ∈ wsX1_thinkOf := by decide +kernel
  have m39 : Cond.fieldLink RX1 39 "TongueTip$Hall" "day" "I" ∈ wsX1_thinkOf := by decide +kernel
  have x110 : Cond.methodLink RX1 110 Lib.Math.min.name ∈ wsX1_thinkOf := by decide +kernel
  have xcmin : Cond.code Lib.Math.min.name Lib.Math.min.code 2 (some .int) ∈ wsX1_thinkOf := by decide +kernel
  have xi : Cond.initialized "java/lang/Math" ∈ wsX1_thinkOf := by decide +kernel
  have xsmin : Cond.static Lib.Math.min.name ∈ wsX1_thinkOf := by decide +kernel
  unfold f_X1_thinkOf at h
  have hfr : ∀ j, (j < kk ∨ kk + 11 ≤ j) → en j = en j := fun _ _ => rfl
  refine G_bipush hC (v := 20) (by decide) dX1_thinkOf_0 ?_
  refine G_aload_n hC 0 0 rfl rfl dX1_thinkOf_2 ?_
  refine G_iload_n hC 1 1 rfl rfl dX1_thinkOf_3 ?_
  refine G_iconst hC (v := 0) (by decide) dX1_thinkOf_4 ?_
  obtain ⟨q5, h5, h⟩ := bnd h
  refine G_cVi (st := [.int (20 : Int32)]) hC _ kk (by omega) (c_X1_strengthLeft (kk := kk) l (by omega) H_sg h5) (cwV 2 hC.hts gX1_thinkOf_X1_strengthLeft rfl rfl rfl (by decide +kernel) ⟨Nat.le_of_ble_eq_true rfl, Nat.le_of_ble_eq_true rfl⟩) (H_sg 0 (by decide)) rfl rfl (Nat.le_of_ble_eq_true rfl) (Nat.zero_le _) (Nat.zero_le _) rfl dX1_thinkOf_5 (fun r5 enx hw => ?_)
  obtain ⟨rfl, rfl⟩ := hw
  refine G_iconst hC (v := 3) (by decide) dX1_thinkOf_8 ?_
  refine G_iadd hC dX1_thinkOf_9 ?_
  refine G_mmin hC x110 xsmin xi xcmin (Nat.le_of_ble_eq_true rfl) (Nat.le_of_ble_eq_true rfl) (Nat.zero_le _) (Nat.zero_le _) dX1_thinkOf_10 ?_
  refine G_istore_n hC 2 [(2, .int (imin (20 : Int32) (q5 + (3 : Int32)))), (0, .ref (ad kk)), (1, .int x1)] rfl (by decide) rfl dX1_thinkOf_13 ?_
  refine G_aload_n hC 0 1 rfl rfl dX1_thinkOf_14 ?_
  refine G_get hC inX1 kk (by omega) (v := .ref (ad (kk + 1))) (H_sg 0 (by decide)) rfl 0 (by decide) m16 rfl rfl dX1_thinkOf_15 ?_
  refine G_iload_n hC 1 2 rfl rfl dX1_thinkOf_18 ?_
  refine G_iconst hC (v := 4) (by decide) dX1_thinkOf_19 ?_
  refine G_iload_n hC 2 0 rfl rfl dX1_thinkOf_20 ?_
  refine G_i2l hC dX1_thinkOf_21 ?_
  obtain ⟨q22, h22, h⟩ := bnd h
  refine G_cVv (st := []) hC _ (kk + 1) (by omega) (c_X8_set (pp := kk + 1) l (by omega) (H_sg 1 (by decide)) (H_sg 2 (by decide)) h22) (cwV 3 hC.hts gX1_thinkOf_X8_set rfl rfl rfl (by decide +kernel) ⟨Nat.le_of_ble_eq_true rfl, Nat.le_of_ble_eq_true rfl⟩) (H_sg 1 (by decide)) rfl rfl (Nat.le_of_ble_eq_true rfl) (Nat.zero_le _) (Nat.zero_le _) rfl dX1_thinkOf_22 (fun en2 hw => ?_)
  obtain ⟨t_Tc, fr⟩ := hw
  have H_sg : Hall cs ad en2 kk (hsC sg 0 q22) := H_sg.upC0 t_Tc fr
  have hfr : ∀ j, (j < kk ∨ kk + 11 ≤ j) → en2 j = en j := fun j o0 => (fr j (by omega)).trans (hfr j o0)
  refine G_aload_n hC 0 1 rfl rfl dX1_thinkOf_25 ?_
  refine G_get hC inX1 kk (by omega) (v := .ref (ad (kk + 1))) (H_sg 0 (by decide)) rfl 0 (by decide) m16 rfl rfl dX1_thinkOf_26 ?_
  refine G_iload_n hC 1 2 rfl rfl dX1_thinkOf_29 ?_
  refine G_bipush hC (v := 6) (by decide) dX1_thinkOf_30 ?_
  refine G_aload_n hC 0 1 rfl rfl dX1_thinkOf_32 ?_
  refine G_get hC inX1 kk (by omega) (v := .int ((hsC sg 0 q22).2.2)) (H_sg 0 (by decide)) rfl 5 (by decide) m39 rfl rfl dX1_thinkOf_33 ?_
  refine G_i2l hC dX1_thinkOf_36 ?_
  obtain ⟨q37, h37, h⟩ := bnd h
  refine G_cVv (st := []) hC _ (kk + 1) (by omega) (c_X8_set (pp := kk + 1) l (by omega) (H_sg 1 (by decide)) (H_sg 2 (by decide)) h37) (cwV 3 hC.hts gX1_thinkOf_X8_set rfl rfl rfl (by decide +kernel) ⟨Nat.le_of_ble_eq_true rfl, Nat.le_of_ble_eq_true rfl⟩) (H_sg 1 (by decide)) rfl rfl (Nat.le_of_ble_eq_true rfl) (Nat.zero_le _) (Nat.zero_le _) rfl dX1_thinkOf_37 (fun en3 hw => ?_)
  obtain ⟨t_Tc, fr⟩ := hw
  have H_sg : Hall cs ad en3 kk (hsC (hsC sg 0 q22) 0 q37) := H_sg.upC0 t_Tc fr
  have hfr : ∀ j, (j < kk ∨ kk + 11 ≤ j) → en3 j = en j := fun j o0 => (fr j (by omega)).trans (hfr j o0)
  refine G_iload_n hC 2 0 rfl rfl dX1_thinkOf_40 ?_
  have h := Option.some.inj h
  subst h
  exact Kr _ _ _ _ (nar_i _) ⟨rfl, H_sg, hfr⟩ dX1_thinkOf_41
def f_X1_shame (sg : HallV) (x1 : Int32) : Option (Int32) := Option.bind (f_X8_number (7 : Int32) 84 (sg.2.1 0) x1 (6 : Int32)) (fun q13 => some (imin (20 : Int32) ((sg.2.2 - q13) / (50 : Int32))))
set_option maxHeartbeats 4000000 in
set_option maxRecDepth 100000 in
theorem c_X1_shame {D : va_G} {cs : Nat → ClassId} {sa : Nat → Nat} {n : Nat} {ad : Nat → Nat} {A : Nat → Prop} (l : Launch) {en : Nat → va_E} {kk : Nat} {sg : HallV} {x1 : Int32}  {q : Int32} (hkn : kk + 11 ≤ n) (H_sg : Hall cs ad en kk sg) (h : f_X1_shame sg x1 = some q) : Met l yX1_shame wsX1_shame { frames := 1, cells := 0, slots := 0, locals := 23 } (va_Pc [.ref (ad kk), .int x1] (Wd D cs sa n ad A en)) (va_Qi (fun r u => q = r ∧ en = u) (Wd D cs sa n ad A) A) 0 0 A := by
  refine G_startI cX1_shame 2 [(0, .ref (ad kk)), (1, .int x1)] (by decide) rfl (Nat.le_of_ble_eq_true rfl) rfl ?_
  intro p e s m args below meth c Q hC hnm Kr
  have inX1 : ∀ w ∈ u_ws RX1 TX1 6, w ∈ wsX1_shame := by decide +kernel
  have m16 : Cond.fieldLink RX1 16 "TongueTip$Hall" "people" "LTongueTip$Table;" ∈ wsX1_shame := by decide +kernel
  have m39 : Cond.fieldLink RX1 39 "TongueTip$Hall" "day" "I" ∈ wsX1_shame := by decide +kernel
  have x110 : Cond.methodLink RX1 110 Lib.Math.min.name ∈ wsX1_shame := by decide +kernel
  have xcmin : Cond.code Lib.Math.min.name Lib.Math.min.code 2 (some .int) ∈ wsX1_shame := by decide +kernel
  have xi : Cond.initialized "java/lang/Math" ∈ wsX1_shame := by decide +kernel
  have xsmin : Cond.static Lib.Math.min.name ∈ wsX1_shame := by decide +kernel
  unfold f_X1_shame at h
  refine G_bipush hC (v := 20) (by decide) dX1_shame_0 ?_
  refine G_aload_n hC 0 0 rfl rfl dX1_shame_2 ?_
  refine G_get hC inX1 kk (by omega) (v := .int sg.2.2) (H_sg 0 (by decide)) rfl 5 (by decide) m39 rfl rfl dX1_shame_3 ?_
  refine G_aload_n hC 0 0 rfl rfl dX1_shame_6 ?_
  refine G_get hC inX1 kk (by omega) (v := .ref (ad (kk + 1))) (H_sg 0 (by decide)) rfl 0 (by decide) m16 rfl rfl dX1_shame_7 ?_
  refine G_iload_n hC 1 1 rfl rfl dX1_shame_10 ?_
  refine G_bipush hC (v := 6) (by decide) dX1_shame_11 ?_
  obtain ⟨q13, h13, h⟩ := bnd h
  refine G_cVi (st := [.int sg.2.2, .int (20 : Int32)]) hC _ (kk + 1) (by omega) (c_X8_number (pp := kk + 1) l (by omega) (H_sg 1 (by decide)) (H_sg 2 (by decide)) h13) (cwV 2 hC.hts gX1_shame_X8_number rfl rfl rfl (by decide +kernel) ⟨Nat.le_of_ble_eq_true rfl, Nat.le_of_ble_eq_true rfl⟩) (H_sg 1 (by decide)) rfl rfl (Nat.le_of_ble_eq_true rfl) (Nat.zero_le _) (Nat.zero_le _) rfl dX1_shame_13 (fun r13 enx hw => ?_)
  obtain ⟨rfl, rfl⟩ := hw
  refine G_isub hC dX1_shame_16 ?_
  refine G_bipush hC (v := 50) (by decide) dX1_shame_17 ?_
  refine G_idiv hC (by decide) dX1_shame_19 ?_
  refine G_mmin hC x110 xsmin xi xcmin (Nat.le_of_ble_eq_true rfl) (Nat.le_of_ble_eq_true rfl) (Nat.zero_le _) (Nat.zero_le _) dX1_shame_20 ?_
  have h := Option.some.inj h
  subst h
  exact Kr _ _ _ _ (nar_i _) ⟨rfl, rfl⟩ dX1_shame_23
def f_X1_hasOf (sg : HallV) (x1 : Int32) : Option (Int32) := Option.bind (f_X8_number (5 : Int32) 5 (sg.2.1 4) (0 : Int32) x1) (fun q6 => some q6)
set_option maxHeartbeats 4000000 in
set_option maxRecDepth 100000 in
theorem c_X1_hasOf {D : va_G} {cs : Nat → ClassId} {sa : Nat → Nat} {n : Nat} {ad : Nat → Nat} {A : Nat → Prop} (l : Launch) {en : Nat → va_E} {kk : Nat} {sg : HallV} {x1 : Int32}  {q : Int32} (hkn : kk + 11 ≤ n) (H_sg : Hall cs ad en kk sg) (h : f_X1_hasOf sg x1 = some q) : Met l yX1_hasOf wsX1_hasOf { frames := 1, cells := 0, slots := 0, locals := 23 } (va_Pc [.ref (ad kk), .int x1] (Wd D cs sa n ad A en)) (va_Qi (fun r u => q = r ∧ en = u) (Wd D cs sa n ad A) A) 0 0 A := by
  refine G_startI cX1_hasOf 2 [(0, .ref (ad kk)), (1, .int x1)] (by decide) rfl (Nat.le_of_ble_eq_true rfl) rfl ?_
  intro p e s m args below meth c Q hC hnm Kr
  have inX1 : ∀ w ∈ u_ws RX1 TX1 6, w ∈ wsX1_hasOf := by decide +kernel
  have m29 : Cond.fieldLink RX1 29 "TongueTip$Hall" "known" "LTongueTip$Table;" ∈ wsX1_hasOf := by decide +kernel
  unfold f_X1_hasOf at h
  refine G_aload_n hC 0 0 rfl rfl dX1_hasOf_0 ?_
  refine G_get hC inX1 kk (by omega) (v := .ref (ad (kk + 9))) (H_sg 0 (by decide)) rfl 4 (by decide) m29 rfl rfl dX1_hasOf_1 ?_
  refine G_iconst hC (v := 0) (by decide) dX1_hasOf_4 ?_
  refine G_iload_n hC 1 1 rfl rfl dX1_hasOf_5 ?_
  obtain ⟨q6, h6, h⟩ := bnd h
  refine G_cVi (st := []) hC _ (kk + 9) (by omega) (c_X8_number (pp := kk + 9) l (by omega) (H_sg 9 (by decide)) (H_sg 10 (by decide)) h6) (cwV 2 hC.hts gX1_hasOf_X8_number rfl rfl rfl (by decide +kernel) ⟨Nat.le_of_ble_eq_true rfl, Nat.le_of_ble_eq_true rfl⟩) (H_sg 9 (by decide)) rfl rfl (Nat.le_of_ble_eq_true rfl) (Nat.zero_le _) (Nat.zero_le _) rfl dX1_hasOf_6 (fun r6 enx hw => ?_)
  obtain ⟨rfl, rfl⟩ := hw
  have h := Option.some.inj h
  subst h
  exact Kr _ _ _ _ (nar_i _) ⟨rfl, rfl⟩ dX1_hasOf_9
def f_X1_partOf (sg : HallV) (x1 : Int32) (x2 : Int32) : Option (Int32) := if x2 = (0 : Int32) then (Option.bind (f_X8_get (7 : Int32) 84 (sg.2.1 0) x1 (0 : Int32)) (fun q38 => Option.bind (f_X2_firstLetter q38) (fun q41 => some q41))) else if x2 = (1 : Int32) then (Option.bind (f_X8_get (7 : Int32) 84 (sg.2.1 0) x1 (0 : Int32)) (fun q51 => Option.bind (f_X2_lettersOf q51) (fun q54 => some q54))) else if x2 = (2 : Int32) then (Option.bind (f_X8_number (7 : Int32) 84 (sg.2.1 0) x1 (1 : Int32)) (fun q64 => some q64)) else if x2 = (3 : Int32) then (Option.bind (f_X8_number (7 : Int32) 84 (sg.2.1 0) x1 (2 : Int32)) (fun q74 => some q74)) else (Option.bind (f_X8_number (7 : Int32) 84 (sg.2.1 0) x1 (3 : Int32)) (fun q84 => some q84))
set_option maxHeartbeats 4000000 in
set_option maxRecDepth 100000 in
theorem c_X1_partOf {D : va_G} {cs : Nat → ClassId} {sa : Nat → Nat} {n : Nat} {ad : Nat → Nat} {A : Nat → Prop} (l : Launch) {en : Nat → va_E} {kk : Nat} {sg : HallV} {x1 : Int32} {x2 : Int32}  {q : Int32} (hkn : kk + 11 ≤ n) (H_sg : Hall cs ad en kk sg) (h : f_X1_partOf sg x1 x2 = some q) : Met l yX1_partOf wsX1_partOf { frames := 2, cells := 0, slots := 0, locals := 44 } (va_Pc [.ref (ad kk), .int x1, .int x2] (Wd D cs sa n ad A en)) (va_Qi (fun r u => q = r ∧ en = u) (Wd D cs sa n ad A) A) 0 0 A := by
  refine G_startI cX1_partOf 3 [(0, .ref (ad kk)), (1, .int x1), (2, .int x2)] (by decide) rfl (Nat.le_of_ble_eq_true rfl) rfl ?_
  intro p e s m args below meth c Q hC hnm Kr
  have inX1 : ∀ w ∈ u_ws RX1 TX1 6, w ∈ wsX1_partOf := by decide +kernel
  have m16 : Cond.fieldLink RX1 16 "TongueTip$Hall" "people" "LTongueTip$Table;" ∈ wsX1_partOf := by decide +kernel
  unfold f_X1_partOf at h
  refine G_iload_n hC 2 2 rfl rfl dX1_partOf_0 ?_
  by_cases c1_0 : x2 = (0 : Int32)
  · have h := ifp c1_0 h
    refine G_tabIn hC 32 dX1_partOf_1 (by rw [c1_0]; decide) (by rw [c1_0]; decide) (off := 31) (by rw [c1_0]; decide) (by decide) ?_
    refine G_aload_n hC 0 0 rfl rfl dX1_partOf_32 ?_
    refine G_get hC inX1 kk (by omega) (v := .ref (ad (kk + 1))) (H_sg 0 (by decide)) rfl 0 (by decide) m16 rfl rfl dX1_partOf_33 ?_
    refine G_iload_n hC 1 1 rfl rfl dX1_partOf_36 ?_
    refine G_iconst hC (v := 0) (by decide) dX1_partOf_37 ?_
    obtain ⟨q38, h38, h⟩ := bnd h
    refine G_cVl (st := []) hC _ (kk + 1) (by omega) (c_X8_get (pp := kk + 1) l (by omega) (H_sg 1 (by decide)) (H_sg 2 (by decide)) h38) (cwV 2 hC.hts gX1_partOf_X8_get rfl rfl rfl (by decide +kernel) ⟨Nat.le_of_ble_eq_true rfl, Nat.le_of_ble_eq_true rfl⟩) (H_sg 1 (by decide)) rfl rfl (Nat.le_of_ble_eq_true rfl) (Nat.zero_le _) (Nat.zero_le _) rfl dX1_partOf_38 (fun r38 enx hw => ?_)
    obtain ⟨rfl, rfl⟩ := hw
    obtain ⟨q41, h41, h⟩ := bnd h
    refine G_cSi (st := []) hC _ (c_X2_firstLetter  l  h41) (va_cwS 1 hC.hts gX1_partOf_X2_firstLetter rfl rfl rfl (by decide +kernel) ⟨Nat.le_of_ble_eq_true rfl, Nat.le_of_ble_eq_true rfl⟩) rfl (Nat.le_of_ble_eq_true rfl) (Nat.zero_le _) (Nat.zero_le _) rfl dX1_partOf_41 (fun r41 enx hw => ?_)
    obtain ⟨rfl, rfl⟩ := hw
    have h := Option.some.inj h
    subst h
    exact Kr _ _ _ _ (nar_i _) ⟨rfl, rfl⟩ dX1_partOf_44
  have h := ifn c1_0 h
  by_cases c1_1 : x2 = (1 : Int32)
  · have h := ifp c1_1 h
    refine G_tabIn hC 45 dX1_partOf_1 (by rw [c1_1]; decide) (by rw [c1_1]; decide) (off := 44) (by rw [c1_1]; decide) (by decide) ?_
    refine G_aload_n hC 0 0 rfl rfl dX1_partOf_45 ?_
    refine G_get hC inX1 kk (by omega) (v := .ref (ad (kk + 1))) (H_sg 0 (by decide)) rfl 0 (by decide) m16 rfl rfl dX1_partOf_46 ?_
    refine G_iload_n hC 1 1 rfl rfl dX1_partOf_49 ?_
    refine G_iconst hC (v := 0) (by decide) dX1_partOf_50 ?_
    obtain ⟨q51, h51, h⟩ := bnd h
    refine G_cVl (st := []) hC _ (kk + 1) (by omega) (c_X8_get (pp := kk + 1) l (by omega) (H_sg 1 (by decide)) (H_sg 2 (by decide)) h51) (cwV 2 hC.hts gX1_partOf_X8_get rfl rfl rfl (by decide +kernel) ⟨Nat.le_of_ble_eq_true rfl, Nat.le_of_ble_eq_true rfl⟩) (H_sg 1 (by decide)) rfl rfl (Nat.le_of_ble_eq_true rfl) (Nat.zero_le _) (Nat.zero_le _) rfl dX1_partOf_51 (fun r51 enx hw => ?_)
    obtain ⟨rfl, rfl⟩ := hw
    obtain ⟨q54, h54, h⟩ := bnd h
    refine G_cSi (st := []) hC _ (c_X2_lettersOf  l  h54) (va_cwS 1 hC.hts gX1_partOf_X2_lettersOf rfl rfl rfl (by decide +kernel) ⟨Nat.le_of_ble_eq_true rfl, Nat.le_of_ble_eq_true rfl⟩) rfl (Nat.le_of_ble_eq_true rfl) (Nat.zero_le _) (Nat.zero_le _) rfl dX1_partOf_54 (fun r54 enx hw => ?_)
    obtain ⟨rfl, rfl⟩ := hw
    have h := Option.some.inj h
    subst h
    exact Kr _ _ _ _ (nar_i _) ⟨rfl, rfl⟩ dX1_partOf_57
  have h := ifn c1_1 h
  by_cases c1_2 : x2 = (2 : Int32)
  · have h := ifp c1_2 h
    refine G_tabIn hC 58 dX1_partOf_1 (by rw [c1_2]; decide) (by rw [c1_2]; decide) (off := 57) (by rw [c1_2]; decide) (by decide) ?_
    refine G_aload_n hC 0 0 rfl rfl dX1_partOf_58 ?_
    refine G_get hC inX1 kk (by omega) (v := .ref (ad (kk + 1))) (H_sg 0 (by decide)) rfl 0 (by decide) m16 rfl rfl dX1_partOf_59 ?_
    refine G_iload_n hC 1 1 rfl rfl dX1_partOf_62 ?_
    refine G_iconst hC (v := 1) (by decide) dX1_partOf_63 ?_
    obtain ⟨q64, h64, h⟩ := bnd h
    refine G_cVi (st := []) hC _ (kk + 1) (by omega) (c_X8_number (pp := kk + 1) l (by omega) (H_sg 1 (by decide)) (H_sg 2 (by decide)) h64) (cwV 2 hC.hts gX1_partOf_X8_number rfl rfl rfl (by decide +kernel) ⟨Nat.le_of_ble_eq_true rfl, Nat.le_of_ble_eq_true rfl⟩) (H_sg 1 (by decide)) rfl rfl (Nat.le_of_ble_eq_true rfl) (Nat.zero_le _) (Nat.zero_le _) rfl dX1_partOf_64 (fun r64 enx hw => ?_)
    obtain ⟨rfl, rfl⟩ := hw
    have h := Option.some.inj h
    subst h
    exact Kr _ _ _ _ (nar_i _) ⟨rfl, rfl⟩ dX1_partOf_67
  have h := ifn c1_2 h
  by_cases c1_3 : x2 = (3 : Int32)
  · have h := ifp c1_3 h
    refine G_tabIn hC 68 dX1_partOf_1 (by rw [c1_3]; decide) (by rw [c1_3]; decide) (off := 67) (by rw [c1_3]; decide) (by decide) ?_
    refine G_aload_n hC 0 0 rfl rfl dX1_partOf_68 ?_
    refine G_get hC inX1 kk (by omega) (v := .ref (ad (kk + 1))) (H_sg 0 (by decide)) rfl 0 (by decide) m16 rfl rfl dX1_partOf_69 ?_
    refine G_iload_n hC 1 1 rfl rfl dX1_partOf_72 ?_
    refine G_iconst hC (v := 2) (by decide) dX1_partOf_73 ?_
    obtain ⟨q74, h74, h⟩ := bnd h
    refine G_cVi (st := []) hC _ (kk + 1) (by omega) (c_X8_number (pp := kk + 1) l (by omega) (H_sg 1 (by decide)) (H_sg 2 (by decide)) h74) (cwV 2 hC.hts gX1_partOf_X8_number rfl rfl rfl (by decide +kernel) ⟨Nat.le_of_ble_eq_true rfl, Nat.le_of_ble_eq_true rfl⟩) (H_sg 1 (by decide)) rfl rfl (Nat.le_of_ble_eq_true rfl) (Nat.zero_le _) (Nat.zero_le _) rfl dX1_partOf_74 (fun r74 enx hw => ?_)
    obtain ⟨rfl, rfl⟩ := hw
    have h := Option.some.inj h
    subst h
    exact Kr _ _ _ _ (nar_i _) ⟨rfl, rfl⟩ dX1_partOf_77
  have h := ifn c1_3 h
  refine G_tabOut hC 78 dX1_partOf_1 (sw_out 0 3 (by decide) (fun i h0 h1 => by
    rcases (show i = 0 ∨ i = 1 ∨ i = 2 ∨ i = 3 by omega) with rfl | rfl | rfl | rfl
    · exact c1_0
    · exact c1_1
    · exact c1_2
    · exact c1_3)) (by decide) ?_
  refine G_aload_n hC 0 0 rfl rfl dX1_partOf_78 ?_
  refine G_get hC inX1 kk (by omega) (v := .ref (ad (kk + 1))) (H_sg 0 (by decide)) rfl 0 (by decide) m16 rfl rfl dX1_partOf_79 ?_
  refine G_iload_n hC 1 1 rfl rfl dX1_partOf_82 ?_
  refine G_iconst hC (v := 3) (by decide) dX1_partOf_83 ?_
  obtain ⟨q84, h84, h⟩ := bnd h
  refine G_cVi (st := []) hC _ (kk + 1) (by omega) (c_X8_number (pp := kk + 1) l (by omega) (H_sg 1 (by decide)) (H_sg 2 (by decide)) h84) (cwV 2 hC.hts gX1_partOf_X8_number rfl rfl rfl (by decide +kernel) ⟨Nat.le_of_ble_eq_true rfl, Nat.le_of_ble_eq_true rfl⟩) (H_sg 1 (by decide)) rfl rfl (Nat.le_of_ble_eq_true rfl) (Nat.zero_le _) (Nat.zero_le _) rfl dX1_partOf_84 (fun r84 enx hw => ?_)
  obtain ⟨rfl, rfl⟩ := hw
  have h := Option.some.inj h
  subst h
  exact Kr _ _ _ _ (nar_i _) ⟨rfl, rfl⟩ dX1_partOf_87
