def f_X10_counted (bads : Int32) (noes : Int32) (fulls : Int32) (x1 : Int32) : Option (Int32 × Int32 × Int32 × Int32) := if x1 = (-2 : Int32) then (some (x1, bads + (1 : Int32), noes, fulls)) else (if x1 = (-3 : Int32) then (some (x1, bads, noes + (1 : Int32), fulls)) else (if x1 = (-4 : Int32) then (some (x1, bads, noes, fulls + (1 : Int32))) else (some (x1, bads, noes, fulls))))
set_option maxHeartbeats 4000000 in
set_option maxRecDepth 100000 in
theorem c_X10_counted {D : va_G} {cs : Nat → ClassId} {sa : Nat → Nat} {n : Nat} {ad : Nat → Nat} {A : Nat → Prop} (l : Launch) {en : Nat → va_E}  {keptImages : Int32} {fab : Int64} {fbe : Int64} {bads : Int32} {noes : Int32} {fulls : Int32} {x1 : Int32}  {q : Int32 × Int32 × Int32 × Int32} (hn : 110 ≤ n) (e_tt : en 0 = .inr (7, [.ref (ad 1), .ref (ad 12), .ref (ad 58), .ref (ad 81), .ref (ad 83), .ref (ad 96), .ref (ad 98), .int keptImages, .long fab, .long fbe, .int bads, .int noes, .int fulls])) (h : f_X10_counted bads noes fulls x1 = some q) : Met l yX10_counted wsX10_counted { frames := 0, cells := 0, slots := 0, locals := 0 } (va_Pc [.ref (ad 0), .int x1] (Wd D cs sa n ad A en)) (va_Qi (fun r u => q.1 = r ∧ u 0 = .inr (7, [.ref (ad 1), .ref (ad 12), .ref (ad 58), .ref (ad 81), .ref (ad 83), .ref (ad 96), .ref (ad 98), .int keptImages, .long fab, .long fbe, .int q.2.1, .int q.2.2.1, .int q.2.2.2]) ∧ (∀ j, (j < 0 ∨ 1 ≤ j) → u j = en j)) (Wd D cs sa n ad A) A) 0 0 A := by
  refine G_startI cX10_counted 2 [(0, .ref (ad 0)), (1, .int x1)] (by decide) rfl (Nat.le_of_ble_eq_true rfl) rfl ?_
  intro p e s m args below meth c Q hC hnm Kr
  have inX10 : ∀ w ∈ u_ws RX10 TX10 13, w ∈ wsX10_counted := by decide +kernel
  have m234 : Cond.fieldLink RX10 234 "TongueTip" "bads" "I" ∈ wsX10_counted := by decide +kernel
  have m237 : Cond.fieldLink RX10 237 "TongueTip" "noes" "I" ∈ wsX10_counted := by decide +kernel
  have m240 : Cond.fieldLink RX10 240 "TongueTip" "fulls" "I" ∈ wsX10_counted := by decide +kernel
  unfold f_X10_counted at h
  have hfr : ∀ j, (j < 0 ∨ 1 ≤ j) → en j = en j := fun _ _ => rfl
  refine G_iload_n hC 1 1 rfl rfl dX10_counted_0 ?_
  refine G_bipush hC (v := (-2)) (by decide) dX10_counted_1 ?_
  refine G_icmp_ne hC 19 dX10_counted_3 (by decide) (fun c3 => ?_) (fun c3 => ?_)
  · have h := ifn c3 h
    refine G_iload_n hC 1 1 rfl rfl dX10_counted_19 ?_
    refine G_bipush hC (v := (-3)) (by decide) dX10_counted_20 ?_
    refine G_icmp_ne hC 38 dX10_counted_22 (by decide) (fun c22 => ?_) (fun c22 => ?_)
    · have h := ifn c22 h
      refine G_iload_n hC 1 1 rfl rfl dX10_counted_38 ?_
      refine G_bipush hC (v := (-4)) (by decide) dX10_counted_39 ?_
      refine G_icmp_ne hC 54 dX10_counted_41 (by decide) (fun c41 => ?_) (fun c41 => ?_)
      · have h := ifn c41 h
        refine G_iload_n hC 1 1 rfl rfl dX10_counted_54 ?_
        have h := Option.some.inj h
        subst h
        exact Kr _ _ _ _ (nar_i _) ⟨rfl, e_tt, hfr⟩ dX10_counted_55
      have h := ifp c41 h
      refine G_aload_n hC 0 0 rfl rfl dX10_counted_44 ?_
      refine G_dup hC rfl dX10_counted_45 ?_
      refine G_get hC inX10 0 (by omega) (v := .int fulls) e_tt rfl 12 (by decide) m240 rfl rfl dX10_counted_46 ?_
      refine G_iconst hC (v := 1) (by decide) dX10_counted_49 ?_
      refine G_iadd hC dX10_counted_50 ?_
      refine G_put hC inX10 tyX10 tyX10_ok nmX10 0 (by omega) e_tt rfl 12 (by decide) m240 rfl rfl (ty := .int) rfl rfl rfl (Nat.le_of_ble_eq_true rfl) dX10_counted_51 (fun en2 e_tt fr => ?_)
      have e_tt : en2 0 = .inr (7, [.ref (ad 1), .ref (ad 12), .ref (ad 58), .ref (ad 81), .ref (ad 83), .ref (ad 96), .ref (ad 98), .int keptImages, .long fab, .long fbe, .int bads, .int noes, .int (fulls + (1 : Int32))]) := e_tt
      have hfr : ∀ j, (j < 0 ∨ 1 ≤ j) → en2 j = en j := fun j o0 => (fr j (by omega)).trans (hfr j o0)
      refine G_iload_n hC 1 1 rfl rfl dX10_counted_54 ?_
      have h := Option.some.inj h
      subst h
      exact Kr _ _ _ _ (nar_i _) ⟨rfl, e_tt, hfr⟩ dX10_counted_55
    have h := ifp c22 h
    refine G_aload_n hC 0 0 rfl rfl dX10_counted_25 ?_
    refine G_dup hC rfl dX10_counted_26 ?_
    refine G_get hC inX10 0 (by omega) (v := .int noes) e_tt rfl 11 (by decide) m237 rfl rfl dX10_counted_27 ?_
    refine G_iconst hC (v := 1) (by decide) dX10_counted_30 ?_
    refine G_iadd hC dX10_counted_31 ?_
    refine G_put hC inX10 tyX10 tyX10_ok nmX10 0 (by omega) e_tt rfl 11 (by decide) m237 rfl rfl (ty := .int) rfl rfl rfl (Nat.le_of_ble_eq_true rfl) dX10_counted_32 (fun en3 e_tt fr => ?_)
    have e_tt : en3 0 = .inr (7, [.ref (ad 1), .ref (ad 12), .ref (ad 58), .ref (ad 81), .ref (ad 83), .ref (ad 96), .ref (ad 98), .int keptImages, .long fab, .long fbe, .int bads, .int (noes + (1 : Int32)), .int fulls]) := e_tt
    have hfr : ∀ j, (j < 0 ∨ 1 ≤ j) → en3 j = en j := fun j o0 => (fr j (by omega)).trans (hfr j o0)
    refine G_goto hC 54 dX10_counted_35 (by decide) ?_
    refine G_iload_n hC 1 1 rfl rfl dX10_counted_54 ?_
    have h := Option.some.inj h
    subst h
    exact Kr _ _ _ _ (nar_i _) ⟨rfl, e_tt, hfr⟩ dX10_counted_55
  have h := ifp c3 h
  refine G_aload_n hC 0 0 rfl rfl dX10_counted_6 ?_
  refine G_dup hC rfl dX10_counted_7 ?_
  refine G_get hC inX10 0 (by omega) (v := .int bads) e_tt rfl 10 (by decide) m234 rfl rfl dX10_counted_8 ?_
  refine G_iconst hC (v := 1) (by decide) dX10_counted_11 ?_
  refine G_iadd hC dX10_counted_12 ?_
  refine G_put hC inX10 tyX10 tyX10_ok nmX10 0 (by omega) e_tt rfl 10 (by decide) m234 rfl rfl (ty := .int) rfl rfl rfl (Nat.le_of_ble_eq_true rfl) dX10_counted_13 (fun en4 e_tt fr => ?_)
  have e_tt : en4 0 = .inr (7, [.ref (ad 1), .ref (ad 12), .ref (ad 58), .ref (ad 81), .ref (ad 83), .ref (ad 96), .ref (ad 98), .int keptImages, .long fab, .long fbe, .int (bads + (1 : Int32)), .int noes, .int fulls]) := e_tt
  have hfr : ∀ j, (j < 0 ∨ 1 ≤ j) → en4 j = en j := fun j o0 => (fr j (by omega)).trans (hfr j o0)
  refine G_goto hC 54 dX10_counted_16 (by decide) ?_
  refine G_iload_n hC 1 1 rfl rfl dX10_counted_54 ?_
  have h := Option.some.inj h
  subst h
  exact Kr _ _ _ _ (nar_i _) ⟨rfl, e_tt, hfr⟩ dX10_counted_55
def f_X10_countedBadTen (bads : Int32) (noes : Int32) (fulls : Int32)  : Option (Int32 × Int32 × Int32 × Int32) := Option.bind (f_X10_counted bads noes fulls (-2 : Int32)) (fun q3 => some ((-10 : Int32), q3.2.1, q3.2.2.1, q3.2.2.2))
set_option maxHeartbeats 4000000 in
set_option maxRecDepth 100000 in
theorem c_X10_countedBadTen {D : va_G} {cs : Nat → ClassId} {sa : Nat → Nat} {n : Nat} {ad : Nat → Nat} {A : Nat → Prop} (l : Launch) {en : Nat → va_E}  {keptImages : Int32} {fab : Int64} {fbe : Int64} {bads : Int32} {noes : Int32} {fulls : Int32}   {q : Int32 × Int32 × Int32 × Int32} (hn : 110 ≤ n) (e_tt : en 0 = .inr (7, [.ref (ad 1), .ref (ad 12), .ref (ad 58), .ref (ad 81), .ref (ad 83), .ref (ad 96), .ref (ad 98), .int keptImages, .long fab, .long fbe, .int bads, .int noes, .int fulls])) (h : f_X10_countedBadTen bads noes fulls = some q) : Met l yX10_countedBadTen wsX10_countedBadTen { frames := 1, cells := 0, slots := 0, locals := 21 } (va_Pc [.ref (ad 0)] (Wd D cs sa n ad A en)) (va_Qi (fun r u => q.1 = r ∧ u 0 = .inr (7, [.ref (ad 1), .ref (ad 12), .ref (ad 58), .ref (ad 81), .ref (ad 83), .ref (ad 96), .ref (ad 98), .int keptImages, .long fab, .long fbe, .int q.2.1, .int q.2.2.1, .int q.2.2.2]) ∧ (∀ j, (j < 0 ∨ 1 ≤ j) → u j = en j)) (Wd D cs sa n ad A) A) 0 0 A := by
  refine G_startI cX10_countedBadTen 1 [(0, .ref (ad 0))] (by decide) rfl (Nat.le_of_ble_eq_true rfl) rfl ?_
  intro p e s m args below meth c Q hC hnm Kr
  unfold f_X10_countedBadTen at h
  have hfr : ∀ j, (j < 0 ∨ 1 ≤ j) → en j = en j := fun _ _ => rfl
  refine G_aload_n hC 0 0 rfl rfl dX10_countedBadTen_0 ?_
  refine G_bipush hC (v := (-2)) (by decide) dX10_countedBadTen_1 ?_
  obtain ⟨q3, h3, h⟩ := bnd h
  refine G_cVi (st := []) hC _ 0 (by omega) (c_X10_counted  l (by omega) e_tt h3) (cwV 1 hC.hts gX10_countedBadTen_X10_counted rfl rfl rfl (by decide +kernel) ⟨Nat.le_of_ble_eq_true rfl, Nat.le_of_ble_eq_true rfl⟩) e_tt rfl rfl (Nat.le_of_ble_eq_true rfl) (Nat.zero_le _) (Nat.zero_le _) rfl dX10_countedBadTen_3 (fun r3 en2 hw => ?_)
  obtain ⟨rfl, e_tt, fr⟩ := hw
  have hfr : ∀ j, (j < 0 ∨ 1 ≤ j) → en2 j = en j := fun j o0 => (fr j (by omega)).trans (hfr j o0)
  refine G_pop hC rfl dX10_countedBadTen_6 ?_
  refine G_bipush hC (v := (-10)) (by decide) dX10_countedBadTen_7 ?_
  have h := Option.some.inj h
  subst h
  exact Kr _ _ _ _ (nar_i _) ⟨rfl, e_tt, hfr⟩ dX10_countedBadTen_9
def f_X10_tally (now : HallV) (kp : Int32) (tlen : Int32) (x1 : Int32) : Option (Int32) := if x1 = (0 : Int32) then (Option.bind (f_X8_size (now.1 0)) (fun q43 => some q43)) else if x1 = (1 : Int32) then (Option.bind (f_X8_size (now.1 1)) (fun q54 => some q54)) else if x1 = (2 : Int32) then (Option.bind (f_X8_size (now.1 2)) (fun q65 => some q65)) else if x1 = (3 : Int32) then (Option.bind (f_X9_size tlen) (fun q73 => some q73)) else if x1 = (4 : Int32) then (Option.bind (f_X5_size kp) (fun q81 => some q81)) else (some now.2.2)
set_option maxHeartbeats 4000000 in
set_option maxRecDepth 100000 in
theorem c_X10_tally {D : va_G} {cs : Nat → ClassId} {sa : Nat → Nat} {n : Nat} {ad : Nat → Nat} {A : Nat → Prop} (l : Launch) {en : Nat → va_E}  {keptImages : Int32} {fab : Int64} {fbe : Int64} {bads : Int32} {noes : Int32} {fulls : Int32} {now : HallV} {bl : Int32} {kp : Int32} {tlen : Int32} {x1 : Int32}  {q : Int32} (hn : 110 ≤ n) (e_tt : en 0 = .inr (7, [.ref (ad 1), .ref (ad 12), .ref (ad 58), .ref (ad 81), .ref (ad 83), .ref (ad 96), .ref (ad 98), .int keptImages, .long fab, .long fbe, .int bads, .int noes, .int fulls])) (e_past : en 12 = .inr (2, [.ref (ad 13), .int bl, .int kp])) (e_text : en 81 = .inr (6, [.ref (ad 82), .int tlen])) (H_now : Hall cs ad en 1 now) (h : f_X10_tally now kp tlen x1 = some q) : Met l yX10_tally wsX10_tally { frames := 1, cells := 0, slots := 0, locals := 20 } (va_Pc [.ref (ad 0), .int x1] (Wd D cs sa n ad A en)) (va_Qi (fun r u => q = r ∧ en = u) (Wd D cs sa n ad A) A) 0 0 A := by
  refine G_startI cX10_tally 2 [(0, .ref (ad 0)), (1, .int x1)] (by decide) rfl (Nat.le_of_ble_eq_true rfl) rfl ?_
  intro p e s m args below meth c Q hC hnm Kr
  have inX1 : ∀ w ∈ u_ws RX1 TX1 6, w ∈ wsX10_tally := by decide +kernel
  have inX10 : ∀ w ∈ u_ws RX10 TX10 13, w ∈ wsX10_tally := by decide +kernel
  have m10 : Cond.fieldLink RX10 10 "TongueTip" "now" "LTongueTip$Hall;" ∈ wsX10_tally := by decide +kernel
  have m104 : Cond.fieldLink RX10 104 "TongueTip$Hall" "day" "I" ∈ wsX10_tally := by decide +kernel
  have m19 : Cond.fieldLink RX10 19 "TongueTip" "past" "LTongueTip$Past;" ∈ wsX10_tally := by decide +kernel
  have m254 : Cond.fieldLink RX10 254 "TongueTip$Hall" "tries" "LTongueTip$Table;" ∈ wsX10_tally := by decide +kernel
  have m257 : Cond.fieldLink RX10 257 "TongueTip$Hall" "questions" "LTongueTip$Table;" ∈ wsX10_tally := by decide +kernel
  have m30 : Cond.fieldLink RX10 30 "TongueTip" "text" "LTongueTip$Text;" ∈ wsX10_tally := by decide +kernel
  have m80 : Cond.fieldLink RX10 80 "TongueTip$Hall" "people" "LTongueTip$Table;" ∈ wsX10_tally := by decide +kernel
  unfold f_X10_tally at h
  refine G_iload_n hC 1 1 rfl rfl dX10_tally_0 ?_
  by_cases c1_0 : x1 = (0 : Int32)
  · have h := ifp c1_0 h
    refine G_tabIn hC 36 dX10_tally_1 (by rw [c1_0]; decide) (by rw [c1_0]; decide) (off := 35) (by rw [c1_0]; decide) (by decide) ?_
    refine G_aload_n hC 0 0 rfl rfl dX10_tally_36 ?_
    refine G_get hC inX10 0 (by omega) (v := .ref (ad 1)) e_tt rfl 0 (by decide) m10 rfl rfl dX10_tally_37 ?_
    refine G_get hC inX1 1 (by omega) (v := .ref (ad (2))) (H_now 0 (by decide)) rfl 0 (by decide) m80 rfl rfl dX10_tally_40 ?_
    obtain ⟨q43, h43, h⟩ := bnd h
    refine G_cVi (st := []) hC _ (1 + 1) (by omega) (c_X8_size (pp := 1 + 1) l (by omega) (H_now 1 (by decide)) h43) (cwV 0 hC.hts gX10_tally_X8_size rfl rfl rfl (by decide +kernel) ⟨Nat.le_of_ble_eq_true rfl, Nat.le_of_ble_eq_true rfl⟩) (H_now 1 (by decide)) rfl rfl (Nat.le_of_ble_eq_true rfl) (Nat.zero_le _) (Nat.zero_le _) rfl dX10_tally_43 (fun r43 enx hw => ?_)
    obtain ⟨rfl, rfl⟩ := hw
    have h := Option.some.inj h
    subst h
    exact Kr _ _ _ _ (nar_i _) ⟨rfl, rfl⟩ dX10_tally_46
  have h := ifn c1_0 h
  by_cases c1_1 : x1 = (1 : Int32)
  · have h := ifp c1_1 h
    refine G_tabIn hC 47 dX10_tally_1 (by rw [c1_1]; decide) (by rw [c1_1]; decide) (off := 46) (by rw [c1_1]; decide) (by decide) ?_
    refine G_aload_n hC 0 0 rfl rfl dX10_tally_47 ?_
    refine G_get hC inX10 0 (by omega) (v := .ref (ad 1)) e_tt rfl 0 (by decide) m10 rfl rfl dX10_tally_48 ?_
    refine G_get hC inX1 1 (by omega) (v := .ref (ad (4))) (H_now 0 (by decide)) rfl 1 (by decide) m254 rfl rfl dX10_tally_51 ?_
    obtain ⟨q54, h54, h⟩ := bnd h
    refine G_cVi (st := []) hC _ (1 + 3) (by omega) (c_X8_size (pp := 1 + 3) l (by omega) (H_now 3 (by decide)) h54) (cwV 0 hC.hts gX10_tally_X8_size rfl rfl rfl (by decide +kernel) ⟨Nat.le_of_ble_eq_true rfl, Nat.le_of_ble_eq_true rfl⟩) (H_now 3 (by decide)) rfl rfl (Nat.le_of_ble_eq_true rfl) (Nat.zero_le _) (Nat.zero_le _) rfl dX10_tally_54 (fun r54 enx hw => ?_)
    obtain ⟨rfl, rfl⟩ := hw
    have h := Option.some.inj h
    subst h
    exact Kr _ _ _ _ (nar_i _) ⟨rfl, rfl⟩ dX10_tally_57
  have h := ifn c1_1 h
  by_cases c1_2 : x1 = (2 : Int32)
  · have h := ifp c1_2 h
    refine G_tabIn hC 58 dX10_tally_1 (by rw [c1_2]; decide) (by rw [c1_2]; decide) (off := 57) (by rw [c1_2]; decide) (by decide) ?_
    refine G_aload_n hC 0 0 rfl rfl dX10_tally_58 ?_
    refine G_get hC inX10 0 (by omega) (v := .ref (ad 1)) e_tt rfl 0 (by decide) m10 rfl rfl dX10_tally_59 ?_
    refine G_get hC inX1 1 (by omega) (v := .ref (ad (6))) (H_now 0 (by decide)) rfl 2 (by decide) m257 rfl rfl dX10_tally_62 ?_
    obtain ⟨q65, h65, h⟩ := bnd h
    refine G_cVi (st := []) hC _ (1 + 5) (by omega) (c_X8_size (pp := 1 + 5) l (by omega) (H_now 5 (by decide)) h65) (cwV 0 hC.hts gX10_tally_X8_size rfl rfl rfl (by decide +kernel) ⟨Nat.le_of_ble_eq_true rfl, Nat.le_of_ble_eq_true rfl⟩) (H_now 5 (by decide)) rfl rfl (Nat.le_of_ble_eq_true rfl) (Nat.zero_le _) (Nat.zero_le _) rfl dX10_tally_65 (fun r65 enx hw => ?_)
    obtain ⟨rfl, rfl⟩ := hw
    have h := Option.some.inj h
    subst h
    exact Kr _ _ _ _ (nar_i _) ⟨rfl, rfl⟩ dX10_tally_68
  have h := ifn c1_2 h
  by_cases c1_3 : x1 = (3 : Int32)
  · have h := ifp c1_3 h
    refine G_tabIn hC 69 dX10_tally_1 (by rw [c1_3]; decide) (by rw [c1_3]; decide) (off := 68) (by rw [c1_3]; decide) (by decide) ?_
    refine G_aload_n hC 0 0 rfl rfl dX10_tally_69 ?_
    refine G_get hC inX10 0 (by omega) (v := .ref (ad 81)) e_tt rfl 3 (by decide) m30 rfl rfl dX10_tally_70 ?_
    obtain ⟨q73, h73, h⟩ := bnd h
    refine G_cVi (st := []) hC _ 81 (by omega) (c_X9_size  l (by omega) e_text h73) (cwV 0 hC.hts gX10_tally_X9_size rfl rfl rfl (by decide +kernel) ⟨Nat.le_of_ble_eq_true rfl, Nat.le_of_ble_eq_true rfl⟩) e_text rfl rfl (Nat.le_of_ble_eq_true rfl) (Nat.zero_le _) (Nat.zero_le _) rfl dX10_tally_73 (fun r73 enx hw => ?_)
    obtain ⟨rfl, rfl⟩ := hw
    have h := Option.some.inj h
    subst h
    exact Kr _ _ _ _ (nar_i _) ⟨rfl, rfl⟩ dX10_tally_76
  have h := ifn c1_3 h
  by_cases c1_4 : x1 = (4 : Int32)
  · have h := ifp c1_4 h
    refine G_tabIn hC 77 dX10_tally_1 (by rw [c1_4]; decide) (by rw [c1_4]; decide) (off := 76) (by rw [c1_4]; decide) (by decide) ?_
    refine G_aload_n hC 0 0 rfl rfl dX10_tally_77 ?_
    refine G_get hC inX10 0 (by omega) (v := .ref (ad 12)) e_tt rfl 1 (by decide) m19 rfl rfl dX10_tally_78 ?_
    obtain ⟨q81, h81, h⟩ := bnd h
    refine G_cVi (st := []) hC _ 12 (by omega) (c_X5_size  l (by omega) e_past h81) (cwV 0 hC.hts gX10_tally_X5_size rfl rfl rfl (by decide +kernel) ⟨Nat.le_of_ble_eq_true rfl, Nat.le_of_ble_eq_true rfl⟩) e_past rfl rfl (Nat.le_of_ble_eq_true rfl) (Nat.zero_le _) (Nat.zero_le _) rfl dX10_tally_81 (fun r81 enx hw => ?_)
    obtain ⟨rfl, rfl⟩ := hw
    have h := Option.some.inj h
    subst h
    exact Kr _ _ _ _ (nar_i _) ⟨rfl, rfl⟩ dX10_tally_84
  have h := ifn c1_4 h
  refine G_tabOut hC 85 dX10_tally_1 (sw_out 0 4 (by decide) (fun i h0 h1 => by
    rcases (show i = 0 ∨ i = 1 ∨ i = 2 ∨ i = 3 ∨ i = 4 by omega) with rfl | rfl | rfl | rfl | rfl
    · exact c1_0
    · exact c1_1
    · exact c1_2
    · exact c1_3
    · exact c1_4)) (by decide) ?_
  refine G_aload_n hC 0 0 rfl rfl dX10_tally_85 ?_
  refine G_get hC inX10 0 (by omega) (v := .ref (ad 1)) e_tt rfl 0 (by decide) m10 rfl rfl dX10_tally_86 ?_
  refine G_get hC inX1 1 (by omega) (v := .int now.2.2) (H_now 0 (by decide)) rfl 5 (by decide) m104 rfl rfl dX10_tally_89 ?_
  have h := Option.some.inj h
  subst h
  exact Kr _ _ _ _ (nar_i _) ⟨rfl, rfl⟩ dX10_tally_92
def f_X10_imageAt_B22    : Option ((Option Nat)) := some none
def f_X10_imageAt  (x1 : Int32) : Option ((Option Nat)) := if x1 < 0 then (f_X10_imageAt_B22) else (if Int32.ofNat 2 ≤ x1 then (f_X10_imageAt_B22) else (if x1 < 0 ∨ 2 ≤ x1.toNatClampNeg then none else (some (some x1.toNatClampNeg))))
set_option maxHeartbeats 4000000 in
set_option maxRecDepth 100000 in
theorem c_X10_imageAt {D : va_G} {cs : Nat → ClassId} {sa : Nat → Nat} {n : Nat} {ad : Nat → Nat} {A : Nat → Prop} (l : Launch) {en : Nat → va_E}  {keptImages : Int32} {fab : Int64} {fbe : Int64} {bads : Int32} {noes : Int32} {fulls : Int32} {x1 : Int32}  {q : (Option Nat)} (hn : 110 ≤ n) (e_tt : en 0 = .inr (7, [.ref (ad 1), .ref (ad 12), .ref (ad 58), .ref (ad 81), .ref (ad 83), .ref (ad 96), .ref (ad 98), .int keptImages, .long fab, .long fbe, .int bads, .int noes, .int fulls])) (e_imgarr : en 58 = .inl (cs 4, 2, .inr (.inr (.inr (.inr (imgF ad)))))) (h : f_X10_imageAt x1 = some q) : Met l yX10_imageAt wsX10_imageAt { frames := 0, cells := 0, slots := 0, locals := 0 } (va_Pc [.ref (ad 0), .int x1] (Wd D cs sa n ad A en)) (va_Qq (fun r u => Option.map (fun z => ad (59 + 11 * z)) q = r ∧ en = u) (Wd D cs sa n ad A) A) 0 0 A := by
  refine G_startQ cX10_imageAt 2 [(0, .ref (ad 0)), (1, .int x1)] (by decide) rfl (Nat.le_of_ble_eq_true rfl) rfl ?_
  intro p e s m args below meth c Q hC hnm Kr
  have inX10 : ∀ w ∈ u_ws RX10 TX10 13, w ∈ wsX10_imageAt := by decide +kernel
  have m23 : Cond.fieldLink RX10 23 "TongueTip" "images" "[LTongueTip$Hall;" ∈ wsX10_imageAt := by decide +kernel
  have hB22 : f_X10_imageAt_B22 = some q → G p l e ({ frames := 0, cells := 0, slots := 0, locals := 0 } : Room) s m args below meth c D n ad A 2 0 0 Q en 22 [] [] := by
    intro h
    unfold f_X10_imageAt_B22 at h
    refine G_null hC dX10_imageAt_22 ?_
    have h := Option.some.inj h
    subst h
    exact Kr none _ _ _ ⟨rfl, rfl⟩ dX10_imageAt_23
  unfold f_X10_imageAt at h
  refine G_iload_n hC 1 1 rfl rfl dX10_imageAt_0 ?_
  refine G_if_lt hC 22 dX10_imageAt_1 (by decide) (fun c1 => ?_) (fun c1 => ?_)
  · have h := ifp c1 h
    refine G_lv [] rfl ?_
    exact hB22 h
  have h := ifn c1 h
  refine G_iload_n hC 1 1 rfl rfl dX10_imageAt_4 ?_
  refine G_aload_n hC 0 0 rfl rfl dX10_imageAt_5 ?_
  refine G_get hC inX10 0 (by omega) (v := .ref (ad 58)) e_tt rfl 2 (by decide) m23 rfl rfl dX10_imageAt_6 ?_
  refine G_alen hC 4 58 (by omega) e_imgarr rfl rfl dX10_imageAt_9 ?_
  refine G_icmp_ge hC 22 dX10_imageAt_10 (by decide) (fun c10 => ?_) (fun c10 => ?_)
  · have h := ifp c10 h
    refine G_lv [] rfl ?_
    exact hB22 h
  have h := ifn c10 h
  refine G_aload_n hC 0 0 rfl rfl dX10_imageAt_13 ?_
  refine G_get hC inX10 0 (by omega) (v := .ref (ad 58)) e_tt rfl 2 (by decide) m23 rfl rfl dX10_imageAt_14 ?_
  refine G_iload_n hC 1 1 rfl rfl dX10_imageAt_17 ?_
  obtain ⟨g18, h⟩ := asn h
  refine G_aldq hC 58 (by omega) e_imgarr g18 dX10_imageAt_18 ?_
  refine G_eq (st' := [.ref (ad (59 + 11 * x1.toNatClampNeg))]) rfl (by rw [imgF_at g18]) (fun _ _ => rfl) ?_
  refine G_goto hC 23 dX10_imageAt_19 (by decide) ?_
  have h := Option.some.inj h
  subst h
  exact Kr (some (ad (59 + 11 * x1.toNatClampNeg))) _ _ _ ⟨rfl, rfl⟩ dX10_imageAt_23
def f_X10_setFraction (fab : Int64) (fbe : Int64) (x1 : Int64) (x3 : Int64) : Option (Int64 × Int64) := Option.bind (f_X10_commonDivisor x1 x3) (fun q2 => if lg_cmp q2 (0 : Int64) ≤ 0 then (some (fab, fbe)) else (if q2 = 0 then none else (if q2 = 0 then none else (some (x1 / q2, x3 / q2)))))
set_option maxHeartbeats 4000000 in
set_option maxRecDepth 100000 in
theorem c_X10_setFraction {D : va_G} {cs : Nat → ClassId} {sa : Nat → Nat} {n : Nat} {ad : Nat → Nat} {A : Nat → Prop} (l : Launch) {en : Nat → va_E}  {keptImages : Int32} {fab : Int64} {fbe : Int64} {bads : Int32} {noes : Int32} {fulls : Int32} {x1 : Int64} {x3 : Int64}  {q : Int64 × Int64} (hn : 110 ≤ n) (e_tt : en 0 = .inr (7, [.ref (ad 1), .ref (ad 12), .ref (ad 58), .ref (ad 81), .ref (ad 83), .ref (ad 96), .ref (ad 98), .int keptImages, .long fab, .long fbe, .int bads, .int noes, .int fulls])) (h : f_X10_setFraction fab fbe x1 x3 = some q) : Met l yX10_setFraction wsX10_setFraction { frames := 1, cells := 0, slots := 0, locals := 26 } (va_Pc [.ref (ad 0), .long x1, .long x3] (Wd D cs sa n ad A en)) (va_Qv (fun u => u 0 = .inr (7, [.ref (ad 1), .ref (ad 12), .ref (ad 58), .ref (ad 81), .ref (ad 83), .ref (ad 96), .ref (ad 98), .int keptImages, .long q.1, .long q.2, .int bads, .int noes, .int fulls]) ∧ (∀ j, (j < 0 ∨ 1 ≤ j) → u j = en j)) (Wd D cs sa n ad A) A) 0 0 A := by
  refine G_startV cX10_setFraction 7 [(0, .ref (ad 0)), (1, .long x1), (3, .long x3)] (by decide) rfl (Nat.le_of_ble_eq_true rfl) rfl ?_
  intro p e s m args below meth c Q hC hnm Kr
  have inX10 : ∀ w ∈ u_ws RX10 TX10 13, w ∈ wsX10_setFraction := by decide +kernel
  have m57 : Cond.fieldLink RX10 57 "TongueTip" "above" "J" ∈ wsX10_setFraction := by decide +kernel
  have m61 : Cond.fieldLink RX10 61 "TongueTip" "below" "J" ∈ wsX10_setFraction := by decide +kernel
  unfold f_X10_setFraction at h
  have hfr : ∀ j, (j < 0 ∨ 1 ≤ j) → en j = en j := fun _ _ => rfl
  refine G_lload_n hC 1 1 rfl rfl dX10_setFraction_0 ?_
  refine G_lload_n hC 3 2 rfl rfl dX10_setFraction_1 ?_
  obtain ⟨q2, h2, h⟩ := bnd h
  refine G_cSl (st := []) hC _ (c_X10_commonDivisor  l  h2) (va_cwS 2 hC.hts gX10_setFraction_X10_commonDivisor rfl rfl rfl (by decide +kernel) ⟨Nat.le_of_ble_eq_true rfl, Nat.le_of_ble_eq_true rfl⟩) rfl (Nat.le_of_ble_eq_true rfl) (Nat.zero_le _) (Nat.zero_le _) rfl dX10_setFraction_2 (fun r2 enx hw => ?_)
  obtain ⟨rfl, rfl⟩ := hw
  refine G_lstore hC 5 [(5, .long q2), (0, .ref (ad 0)), (1, .long x1), (3, .long x3)] (by decide) rfl dX10_setFraction_5 ?_
  refine G_lload hC 5 0 rfl dX10_setFraction_7 ?_
  refine G_lconst hC (v := 0) (by decide) dX10_setFraction_9 ?_
  refine G_lcmp hC dX10_setFraction_10 ?_
  refine G_if_le hC 30 dX10_setFraction_11 (by decide) (fun c11 => ?_) (fun c11 => ?_)
  · have h := ifp c11 h
    have h := Option.some.inj h
    subst h
    exact Kr _ _ _ ⟨e_tt, hfr⟩ dX10_setFraction_30
  have h := ifn c11 h
  refine G_aload_n hC 0 1 rfl rfl dX10_setFraction_14 ?_
  refine G_lload_n hC 1 2 rfl rfl dX10_setFraction_15 ?_
  refine G_lload hC 5 0 rfl dX10_setFraction_16 ?_
  obtain ⟨g18, h⟩ := asn h
  refine G_ldiv hC g18 dX10_setFraction_18 ?_
  refine G_put hC inX10 tyX10 tyX10_ok nmX10 0 (by omega) e_tt rfl 8 (by decide) m57 rfl rfl (ty := .long) rfl rfl rfl (Nat.le_of_ble_eq_true rfl) dX10_setFraction_19 (fun en2 e_tt fr => ?_)
  have e_tt : en2 0 = .inr (7, [.ref (ad 1), .ref (ad 12), .ref (ad 58), .ref (ad 81), .ref (ad 83), .ref (ad 96), .ref (ad 98), .int keptImages, .long (x1 / q2), .long fbe, .int bads, .int noes, .int fulls]) := e_tt
  have hfr : ∀ j, (j < 0 ∨ 1 ≤ j) → en2 j = en j := fun j o0 => (fr j (by omega)).trans (hfr j o0)
  refine G_aload_n hC 0 1 rfl rfl dX10_setFraction_22 ?_
  refine G_lload_n hC 3 3 rfl rfl dX10_setFraction_23 ?_
  refine G_lload hC 5 0 rfl dX10_setFraction_24 ?_
  obtain ⟨g26, h⟩ := asn h
  refine G_ldiv hC g26 dX10_setFraction_26 ?_
  refine G_put hC inX10 tyX10 tyX10_ok nmX10 0 (by omega) e_tt rfl 9 (by decide) m61 rfl rfl (ty := .long) rfl rfl rfl (Nat.le_of_ble_eq_true rfl) dX10_setFraction_27 (fun en3 e_tt fr => ?_)
  have e_tt : en3 0 = .inr (7, [.ref (ad 1), .ref (ad 12), .ref (ad 58), .ref (ad 81), .ref (ad 83), .ref (ad 96), .ref (ad 98), .int keptImages, .long (x1 / q2), .long (x3 / q2), .int bads, .int noes, .int fulls]) := e_tt
  have hfr : ∀ j, (j < 0 ∨ 1 ≤ j) → en3 j = en j := fun j o0 => (fr j (by omega)).trans (hfr j o0)
  have h := Option.some.inj h
  subst h
  exact Kr _ _ _ ⟨e_tt, hfr⟩ dX10_setFraction_30
def f_X10_one (bads : Int32) (noes : Int32) (fulls : Int32) (now : HallV) (x1 : Int64) (x3 : Int32) (x4 : Int32) (x5 : Int32) (x6 : Int32) (x7 : Int32) : Option (Int32 × Int32 × Int32 × Int32 × HallV) := Option.bind (f_X1_tellOne now x1 x3 x4 x5 x6 x7) (fun q15 => Option.bind (f_X10_counted bads noes fulls q15.1) (fun q18 => some (q18.1, q18.2.1, q18.2.2.1, q18.2.2.2, q15.2)))
set_option maxHeartbeats 4000000 in
set_option maxRecDepth 100000 in
theorem c_X10_one {D : va_G} {cs : Nat → ClassId} {sa : Nat → Nat} {n : Nat} {ad : Nat → Nat} {A : Nat → Prop} (l : Launch) {en : Nat → va_E}  {keptImages : Int32} {fab : Int64} {fbe : Int64} {bads : Int32} {noes : Int32} {fulls : Int32} {now : HallV} {x1 : Int64} {x3 : Int32} {x4 : Int32} {x5 : Int32} {x6 : Int32} {x7 : Int32}  {q : Int32 × Int32 × Int32 × Int32 × HallV} (hn : 110 ≤ n) (e_tt : en 0 = .inr (7, [.ref (ad 1), .ref (ad 12), .ref (ad 58), .ref (ad 81), .ref (ad 83), .ref (ad 96), .ref (ad 98), .int keptImages, .long fab, .long fbe, .int bads, .int noes, .int fulls])) (H_now : Hall cs ad en 1 now) (h : f_X10_one bads noes fulls now x1 x3 x4 x5 x6 x7 = some q) : Met l yX10_one wsX10_one { frames := 3, cells := 0, slots := 0, locals := 77 } (va_Pc [.ref (ad 0), .long x1, .int x3, .int x4, .int x5, .int x6, .int x7] (Wd D cs sa n ad A en)) (va_Qi (fun r u => q.1 = r ∧ u 0 = .inr (7, [.ref (ad 1), .ref (ad 12), .ref (ad 58), .ref (ad 81), .ref (ad 83), .ref (ad 96), .ref (ad 98), .int keptImages, .long fab, .long fbe, .int q.2.1, .int q.2.2.1, .int q.2.2.2.1]) ∧ Hall cs ad u 1 q.2.2.2.2 ∧ (∀ j, (j < 0 ∨ 1 ≤ j) → (j < 1 ∨ 12 ≤ j) → u j = en j)) (Wd D cs sa n ad A) A) 0 0 A := by
  refine G_startI cX10_one 8 [(0, .ref (ad 0)), (1, .long x1), (3, .int x3), (4, .int x4), (5, .int x5), (6, .int x6), (7, .int x7)] (by decide) rfl (Nat.le_of_ble_eq_true rfl) rfl ?_
  intro p e s m args below meth c Q hC hnm Kr
  have inX10 : ∀ w ∈ u_ws RX10 TX10 13, w ∈ wsX10_one := by decide +kernel
  have m10 : Cond.fieldLink RX10 10 "TongueTip" "now" "LTongueTip$Hall;" ∈ wsX10_one := by decide +kernel
  unfold f_X10_one at h
  have hfr : ∀ j, (j < 0 ∨ 1 ≤ j) → (j < 1 ∨ 12 ≤ j) → en j = en j := fun _ _ _ => rfl
  refine G_aload_n hC 0 0 rfl rfl dX10_one_0 ?_
  refine G_aload_n hC 0 0 rfl rfl dX10_one_1 ?_
  refine G_get hC inX10 0 (by omega) (v := .ref (ad 1)) e_tt rfl 0 (by decide) m10 rfl rfl dX10_one_2 ?_
  refine G_lload_n hC 1 1 rfl rfl dX10_one_5 ?_
  refine G_iload_n hC 3 2 rfl rfl dX10_one_6 ?_
  refine G_iload hC 4 3 rfl dX10_one_7 ?_
  refine G_iload hC 5 4 rfl dX10_one_9 ?_
  refine G_iload hC 6 5 rfl dX10_one_11 ?_
  refine G_iload hC 7 6 rfl dX10_one_13 ?_
  obtain ⟨q15, h15, h⟩ := bnd h
  refine G_cVi (st := [.ref (ad 0)]) hC _ 1 (by omega) (c_X1_tellOne (kk := 1) l (by omega) H_now h15) (cwV 6 hC.hts gX10_one_X1_tellOne rfl rfl rfl (by decide +kernel) ⟨Nat.le_of_ble_eq_true rfl, Nat.le_of_ble_eq_true rfl⟩) (H_now 0 (by decide)) rfl rfl (Nat.le_of_ble_eq_true rfl) (Nat.zero_le _) (Nat.zero_le _) rfl dX10_one_15 (fun r15 en2 hw => ?_)
  obtain ⟨rfl, H_now, fr⟩ := hw
  have e_tt := (fr 0 (by omega)).trans e_tt
  have hfr : ∀ j, (j < 0 ∨ 1 ≤ j) → (j < 1 ∨ 12 ≤ j) → en2 j = en j := fun j o0 o1 => (fr j (by omega)).trans (hfr j o0 o1)
  obtain ⟨q18, h18, h⟩ := bnd h
  refine G_cVi (st := []) hC _ 0 (by omega) (c_X10_counted  l (by omega) e_tt h18) (cwV 1 hC.hts gX10_one_X10_counted rfl rfl rfl (by decide +kernel) ⟨Nat.le_of_ble_eq_true rfl, Nat.le_of_ble_eq_true rfl⟩) e_tt rfl rfl (Nat.le_of_ble_eq_true rfl) (Nat.zero_le _) (Nat.zero_le _) rfl dX10_one_18 (fun r18 en3 hw => ?_)
  obtain ⟨rfl, e_tt, fr⟩ := hw
  have H_now := H_now.fr (fun j h1 h2 => fr j (by omega))
  have hfr : ∀ j, (j < 0 ∨ 1 ≤ j) → (j < 1 ∨ 12 ≤ j) → en3 j = en j := fun j o0 o1 => (fr j (by omega)).trans (hfr j o0 o1)
  have h := Option.some.inj h
  subst h
  exact Kr _ _ _ _ (nar_i _) ⟨rfl, e_tt, H_now, hfr⟩ dX10_one_21
def f_X10_put (bads : Int32) (noes : Int32) (fulls : Int32) (now : HallV) (x1 : Int32) (x2 : Int32) : Option (Int32 × Int32 × Int32 × Int32 × HallV) := Option.bind (f_X1_tellSetting now x1 x2) (fun q7 => Option.bind (f_X10_counted bads noes fulls q7.1) (fun q10 => some (q10.1, q10.2.1, q10.2.2.1, q10.2.2.2, q7.2)))
set_option maxHeartbeats 4000000 in
set_option maxRecDepth 100000 in
theorem c_X10_put {D : va_G} {cs : Nat → ClassId} {sa : Nat → Nat} {n : Nat} {ad : Nat → Nat} {A : Nat → Prop} (l : Launch) {en : Nat → va_E}  {keptImages : Int32} {fab : Int64} {fbe : Int64} {bads : Int32} {noes : Int32} {fulls : Int32} {now : HallV} {x1 : Int32} {x2 : Int32}  {q : Int32 × Int32 × Int32 × Int32 × HallV} (hn : 110 ≤ n) (e_tt : en 0 = .inr (7, [.ref (ad 1), .ref (ad 12), .ref (ad 58), .ref (ad 81), .ref (ad 83), .ref (ad 96), .ref (ad 98), .int keptImages, .long fab, .long fbe, .int bads, .int noes, .int fulls])) (H_now : Hall cs ad en 1 now) (h : f_X10_put bads noes fulls now x1 x2 = some q) : Met l yX10_put wsX10_put { frames := 3, cells := 0, slots := 0, locals := 67 } (va_Pc [.ref (ad 0), .int x1, .int x2] (Wd D cs sa n ad A en)) (va_Qi (fun r u => q.1 = r ∧ u 0 = .inr (7, [.ref (ad 1), .ref (ad 12), .ref (ad 58), .ref (ad 81), .ref (ad 83), .ref (ad 96), .ref (ad 98), .int keptImages, .long fab, .long fbe, .int q.2.1, .int q.2.2.1, .int q.2.2.2.1]) ∧ Hall cs ad u 1 q.2.2.2.2 ∧ (∀ j, (j < 0 ∨ 1 ≤ j) → (j < 1 ∨ 12 ≤ j) → u j = en j)) (Wd D cs sa n ad A) A) 0 0 A := by
  refine G_startI cX10_put 3 [(0, .ref (ad 0)), (1, .int x1), (2, .int x2)] (by decide) rfl (Nat.le_of_ble_eq_true rfl) rfl ?_
  intro p e s m args below meth c Q hC hnm Kr
  have inX10 : ∀ w ∈ u_ws RX10 TX10 13, w ∈ wsX10_put := by decide +kernel
  have m10 : Cond.fieldLink RX10 10 "TongueTip" "now" "LTongueTip$Hall;" ∈ wsX10_put := by decide +kernel
  unfold f_X10_put at h
  have hfr : ∀ j, (j < 0 ∨ 1 ≤ j) → (j < 1 ∨ 12 ≤ j) → en j = en j := fun _ _ _ => rfl
  refine G_aload_n hC 0 0 rfl rfl dX10_put_0 ?_
  refine G_aload_n hC 0 0 rfl rfl dX10_put_1 ?_
  refine G_get hC inX10 0 (by omega) (v := .ref (ad 1)) e_tt rfl 0 (by decide) m10 rfl rfl dX10_put_2 ?_
  refine G_iload_n hC 1 1 rfl rfl dX10_put_5 ?_
  refine G_iload_n hC 2 2 rfl rfl dX10_put_6 ?_
  obtain ⟨q7, h7, h⟩ := bnd h
  refine G_cVi (st := [.ref (ad 0)]) hC _ 1 (by omega) (c_X1_tellSetting (kk := 1) l (by omega) H_now h7) (cwV 2 hC.hts gX10_put_X1_tellSetting rfl rfl rfl (by decide +kernel) ⟨Nat.le_of_ble_eq_true rfl, Nat.le_of_ble_eq_true rfl⟩) (H_now 0 (by decide)) rfl rfl (Nat.le_of_ble_eq_true rfl) (Nat.zero_le _) (Nat.zero_le _) rfl dX10_put_7 (fun r7 en2 hw => ?_)
  obtain ⟨rfl, H_now, fr⟩ := hw
  have e_tt := (fr 0 (by omega)).trans e_tt
  have hfr : ∀ j, (j < 0 ∨ 1 ≤ j) → (j < 1 ∨ 12 ≤ j) → en2 j = en j := fun j o0 o1 => (fr j (by omega)).trans (hfr j o0 o1)
  obtain ⟨q10, h10, h⟩ := bnd h
  refine G_cVi (st := []) hC _ 0 (by omega) (c_X10_counted  l (by omega) e_tt h10) (cwV 1 hC.hts gX10_put_X10_counted rfl rfl rfl (by decide +kernel) ⟨Nat.le_of_ble_eq_true rfl, Nat.le_of_ble_eq_true rfl⟩) e_tt rfl rfl (Nat.le_of_ble_eq_true rfl) (Nat.zero_le _) (Nat.zero_le _) rfl dX10_put_10 (fun r10 en3 hw => ?_)
  obtain ⟨rfl, e_tt, fr⟩ := hw
  have H_now := H_now.fr (fun j h1 h2 => fr j (by omega))
  have hfr : ∀ j, (j < 0 ∨ 1 ≤ j) → (j < 1 ∨ 12 ≤ j) → en3 j = en j := fun j o0 o1 => (fr j (by omega)).trans (hfr j o0 o1)
  have h := Option.some.inj h
  subst h
  exact Kr _ _ _ _ (nar_i _) ⟨rfl, e_tt, H_now, hfr⟩ dX10_put_13
def f_X10_addTry (bads : Int32) (noes : Int32) (fulls : Int32) (now : HallV) (x1 : Int32) (x2 : Int32) (x3 : Int32) : Option (Int32 × Int32 × Int32 × Int32 × HallV) := Option.bind (f_X1_tellTry now x1 x2 x3) (fun q8 => Option.bind (f_X10_counted bads noes fulls q8.1) (fun q11 => some (q11.1, q11.2.1, q11.2.2.1, q11.2.2.2, q8.2)))
set_option maxHeartbeats 4000000 in
set_option maxRecDepth 100000 in
theorem c_X10_addTry {D : va_G} {cs : Nat → ClassId} {sa : Nat → Nat} {n : Nat} {ad : Nat → Nat} {A : Nat → Prop} (l : Launch) {en : Nat → va_E}  {keptImages : Int32} {fab : Int64} {fbe : Int64} {bads : Int32} {noes : Int32} {fulls : Int32} {now : HallV} {x1 : Int32} {x2 : Int32} {x3 : Int32}  {q : Int32 × Int32 × Int32 × Int32 × HallV} (hn : 110 ≤ n) (e_tt : en 0 = .inr (7, [.ref (ad 1), .ref (ad 12), .ref (ad 58), .ref (ad 81), .ref (ad 83), .ref (ad 96), .ref (ad 98), .int keptImages, .long fab, .long fbe, .int bads, .int noes, .int fulls])) (H_now : Hall cs ad en 1 now) (h : f_X10_addTry bads noes fulls now x1 x2 x3 = some q) : Met l yX10_addTry wsX10_addTry { frames := 3, cells := 0, slots := 0, locals := 64 } (va_Pc [.ref (ad 0), .int x1, .int x2, .int x3] (Wd D cs sa n ad A en)) (va_Qi (fun r u => q.1 = r ∧ u 0 = .inr (7, [.ref (ad 1), .ref (ad 12), .ref (ad 58), .ref (ad 81), .ref (ad 83), .ref (ad 96), .ref (ad 98), .int keptImages, .long fab, .long fbe, .int q.2.1, .int q.2.2.1, .int q.2.2.2.1]) ∧ Hall cs ad u 1 q.2.2.2.2 ∧ (∀ j, (j < 0 ∨ 1 ≤ j) → (j < 1 ∨ 12 ≤ j) → u j = en j)) (Wd D cs sa n ad A) A) 0 0 A := by
  refine G_startI cX10_addTry 4 [(0, .ref (ad 0)), (1, .int x1), (2, .int x2), (3, .int x3)] (by decide) rfl (Nat.le_of_ble_eq_true rfl) rfl ?_
  intro p e s m args below meth c Q hC hnm Kr
  have inX10 : ∀ w ∈ u_ws RX10 TX10 13, w ∈ wsX10_addTry := by decide +kernel
  have m10 : Cond.fieldLink RX10 10 "TongueTip" "now" "LTongueTip$Hall;" ∈ wsX10_addTry := by decide +kernel
  unfold f_X10_addTry at h
  have hfr : ∀ j, (j < 0 ∨ 1 ≤ j) → (j < 1 ∨ 12 ≤ j) → en j = en j := fun _ _ _ => rfl
  refine G_aload_n hC 0 0 rfl rfl dX10_addTry_0 ?_
  refine G_aload_n hC 0 0 rfl rfl dX10_addTry_1 ?_
  refine G_get hC inX10 0 (by omega) (v := .ref (ad 1)) e_tt rfl 0 (by decide) m10 rfl rfl dX10_addTry_2 ?_
  refine G_iload_n hC 1 1 rfl rfl dX10_addTry_5 ?_
  refine G_iload_n hC 2 2 rfl rfl dX10_addTry_6 ?_
  refine G_iload_n hC 3 3 rfl rfl dX10_addTry_7 ?_
  obtain ⟨q8, h8, h⟩ := bnd h
  refine G_cVi (st := [.ref (ad 0)]) hC _ 1 (by omega) (c_X1_tellTry (kk := 1) l (by omega) H_now h8) (cwV 3 hC.hts gX10_addTry_X1_tellTry rfl rfl rfl (by decide +kernel) ⟨Nat.le_of_ble_eq_true rfl, Nat.le_of_ble_eq_true rfl⟩) (H_now 0 (by decide)) rfl rfl (Nat.le_of_ble_eq_true rfl) (Nat.zero_le _) (Nat.zero_le _) rfl dX10_addTry_8 (fun r8 en2 hw => ?_)
  obtain ⟨rfl, H_now, fr⟩ := hw
  have e_tt := (fr 0 (by omega)).trans e_tt
  have hfr : ∀ j, (j < 0 ∨ 1 ≤ j) → (j < 1 ∨ 12 ≤ j) → en2 j = en j := fun j o0 o1 => (fr j (by omega)).trans (hfr j o0 o1)
  obtain ⟨q11, h11, h⟩ := bnd h
  refine G_cVi (st := []) hC _ 0 (by omega) (c_X10_counted  l (by omega) e_tt h11) (cwV 1 hC.hts gX10_addTry_X10_counted rfl rfl rfl (by decide +kernel) ⟨Nat.le_of_ble_eq_true rfl, Nat.le_of_ble_eq_true rfl⟩) e_tt rfl rfl (Nat.le_of_ble_eq_true rfl) (Nat.zero_le _) (Nat.zero_le _) rfl dX10_addTry_11 (fun r11 en3 hw => ?_)
  obtain ⟨rfl, e_tt, fr⟩ := hw
  have H_now := H_now.fr (fun j h1 h2 => fr j (by omega))
  have hfr : ∀ j, (j < 0 ∨ 1 ≤ j) → (j < 1 ∨ 12 ≤ j) → en3 j = en j := fun j o0 o1 => (fr j (by omega)).trans (hfr j o0 o1)
  have h := Option.some.inj h
  subst h
  exact Kr _ _ _ _ (nar_i _) ⟨rfl, e_tt, H_now, hfr⟩ dX10_addTry_14
def f_X10_held_B25 (now : HallV)  (bads : Int32) (noes : Int32) (fulls : Int32) : Option (Int32 × Int32 × Int32 × Int32) := Option.bind (f_X10_counted bads noes fulls (-2 : Int32)) (fun q28 => some (q28.1, q28.2.1, q28.2.2.1, q28.2.2.2))
def f_X10_held (bads : Int32) (noes : Int32) (fulls : Int32) (now : HallV) (x1 : Int32) (x2 : Int32) : Option (Int32 × Int32 × Int32 × Int32) := Option.bind (f_X8_holds (now.1 0) x1) (fun q8 => if q8 = 0 then (f_X10_held_B25 now bads noes fulls) else (Option.bind (f_X10_within x2 (0 : Int32) (999 : Int32)) (fun q19 => if q19 = 0 then (f_X10_held_B25 now bads noes fulls) else (Option.bind (f_X1_strengthLeft now x1 x2) (fun q38 => some (q38, bads, noes, fulls))))))
set_option maxHeartbeats 4000000 in
set_option maxRecDepth 100000 in
theorem c_X10_held {D : va_G} {cs : Nat → ClassId} {sa : Nat → Nat} {n : Nat} {ad : Nat → Nat} {A : Nat → Prop} (l : Launch) {en : Nat → va_E}  {keptImages : Int32} {fab : Int64} {fbe : Int64} {bads : Int32} {noes : Int32} {fulls : Int32} {now : HallV} {x1 : Int32} {x2 : Int32}  {q : Int32 × Int32 × Int32 × Int32} (hn : 110 ≤ n) (e_tt : en 0 = .inr (7, [.ref (ad 1), .ref (ad 12), .ref (ad 58), .ref (ad 81), .ref (ad 83), .ref (ad 96), .ref (ad 98), .int keptImages, .long fab, .long fbe, .int bads, .int noes, .int fulls])) (H_now : Hall cs ad en 1 now) (h : f_X10_held bads noes fulls now x1 x2 = some q) : Met l yX10_held wsX10_held { frames := 3, cells := 0, slots := 0, locals := 69 } (va_Pc [.ref (ad 0), .int x1, .int x2] (Wd D cs sa n ad A en)) (va_Qi (fun r u => q.1 = r ∧ u 0 = .inr (7, [.ref (ad 1), .ref (ad 12), .ref (ad 58), .ref (ad 81), .ref (ad 83), .ref (ad 96), .ref (ad 98), .int keptImages, .long fab, .long fbe, .int q.2.1, .int q.2.2.1, .int q.2.2.2]) ∧ (∀ j, (j < 0 ∨ 1 ≤ j) → u j = en j)) (Wd D cs sa n ad A) A) 0 0 A := by
  refine G_startI cX10_held 3 [(0, .ref (ad 0)), (1, .int x1), (2, .int x2)] (by decide) rfl (Nat.le_of_ble_eq_true rfl) rfl ?_
  intro p e s m args below meth c Q hC hnm Kr
  have inX1 : ∀ w ∈ u_ws RX1 TX1 6, w ∈ wsX10_held := by decide +kernel
  have inX10 : ∀ w ∈ u_ws RX10 TX10 13, w ∈ wsX10_held := by decide +kernel
  have m10 : Cond.fieldLink RX10 10 "TongueTip" "now" "LTongueTip$Hall;" ∈ wsX10_held := by decide +kernel
  have m80 : Cond.fieldLink RX10 80 "TongueTip$Hall" "people" "LTongueTip$Table;" ∈ wsX10_held := by decide +kernel
  have hB25 : ∀ (en1 : Nat → va_E) (bads : Int32) (noes : Int32) (fulls : Int32), en1 0 = .inr (7, [.ref (ad 1), .ref (ad 12), .ref (ad 58), .ref (ad 81), .ref (ad 83), .ref (ad 96), .ref (ad 98), .int keptImages, .long fab, .long fbe, .int bads, .int noes, .int fulls]) → Hall cs ad en1 1 now → (∀ j, (j < 0 ∨ 1 ≤ j) → en1 j = en j) → f_X10_held_B25 now bads noes fulls = some q → G p l e ({ frames := 3, cells := 0, slots := 0, locals := 69 } : Room) s m args below meth c D n ad A 3 0 0 Q en1 25 [(0, .ref (ad 0))] [] := by
    intro en1 bads noes fulls e_tt H_now hfr h
    unfold f_X10_held_B25 at h
    refine G_aload_n hC 0 0 rfl rfl dX10_held_25 ?_
    refine G_bipush hC (v := (-2)) (by decide) dX10_held_26 ?_
    obtain ⟨q28, h28, h⟩ := bnd h
    refine G_cVi (st := []) hC _ 0 (by omega) (c_X10_counted  l (by omega) e_tt h28) (cwV 1 hC.hts gX10_held_X10_counted rfl rfl rfl (by decide +kernel) ⟨Nat.le_of_ble_eq_true rfl, Nat.le_of_ble_eq_true rfl⟩) e_tt rfl rfl (Nat.le_of_ble_eq_true rfl) (Nat.zero_le _) (Nat.zero_le _) rfl dX10_held_28 (fun r28 en2 hw => ?_)
    obtain ⟨rfl, e_tt, fr⟩ := hw
    have H_now := H_now.fr (fun j h1 h2 => fr j (by omega))
    have hfr : ∀ j, (j < 0 ∨ 1 ≤ j) → en2 j = en j := fun j o0 => (fr j (by omega)).trans (hfr j o0)
    have h := Option.some.inj h
    subst h
    exact Kr _ _ _ _ (nar_i _) ⟨rfl, e_tt, hfr⟩ dX10_held_31
  unfold f_X10_held at h
  have hfr : ∀ j, (j < 0 ∨ 1 ≤ j) → en j = en j := fun _ _ => rfl
  refine G_aload_n hC 0 0 rfl rfl dX10_held_0 ?_
  refine G_get hC inX10 0 (by omega) (v := .ref (ad 1)) e_tt rfl 0 (by decide) m10 rfl rfl dX10_held_1 ?_
  refine G_get hC inX1 1 (by omega) (v := .ref (ad (2))) (H_now 0 (by decide)) rfl 0 (by decide) m80 rfl rfl dX10_held_4 ?_
  refine G_iload_n hC 1 1 rfl rfl dX10_held_7 ?_
  obtain ⟨q8, h8, h⟩ := bnd h
  refine G_cVi (st := []) hC _ (1 + 1) (by omega) (c_X8_holds (pp := 1 + 1) l (by omega) (H_now 1 (by decide)) h8) (cwV 1 hC.hts gX10_held_X8_holds rfl rfl rfl (by decide +kernel) ⟨Nat.le_of_ble_eq_true rfl, Nat.le_of_ble_eq_true rfl⟩) (H_now 1 (by decide)) rfl rfl (Nat.le_of_ble_eq_true rfl) (Nat.zero_le _) (Nat.zero_le _) rfl dX10_held_8 (fun r8 enx hw => ?_)
  obtain ⟨rfl, rfl⟩ := hw
  refine G_if_eq hC 25 dX10_held_11 (by decide) (fun c11 => ?_) (fun c11 => ?_)
  · have h := ifp c11 h
    refine G_lv [0] rfl ?_
    exact hB25 _ _ _ _ e_tt H_now hfr h
  have h := ifn c11 h
  refine G_iload_n hC 2 2 rfl rfl dX10_held_14 ?_
  refine G_iconst hC (v := 0) (by decide) dX10_held_15 ?_
  refine G_sipush hC (v := 999) (by decide) dX10_held_16 ?_
  obtain ⟨q19, h19, h⟩ := bnd h
  refine G_cSi (st := []) hC _ (c_X10_within  l  h19) (va_cwS 3 hC.hts gX10_held_X10_within rfl rfl rfl (by decide +kernel) ⟨Nat.le_of_ble_eq_true rfl, Nat.le_of_ble_eq_true rfl⟩) rfl (Nat.le_of_ble_eq_true rfl) (Nat.zero_le _) (Nat.zero_le _) rfl dX10_held_19 (fun r19 enx hw => ?_)
  obtain ⟨rfl, rfl⟩ := hw
  refine G_if_ne hC 32 dX10_held_22 (by decide) (fun c22 => ?_) (fun c22 => ?_)
  · have h := ifn c22 h
    refine G_aload_n hC 0 0 rfl rfl dX10_held_32 ?_
    refine G_get hC inX10 0 (by omega) (v := .ref (ad 1)) e_tt rfl 0 (by decide) m10 rfl rfl dX10_held_33 ?_
    refine G_iload_n hC 1 1 rfl rfl dX10_held_36 ?_
    refine G_iload_n hC 2 2 rfl rfl dX10_held_37 ?_
    obtain ⟨q38, h38, h⟩ := bnd h
    refine G_cVi (st := []) hC _ 1 (by omega) (c_X1_strengthLeft (kk := 1) l (by omega) H_now h38) (cwV 2 hC.hts gX10_held_X1_strengthLeft rfl rfl rfl (by decide +kernel) ⟨Nat.le_of_ble_eq_true rfl, Nat.le_of_ble_eq_true rfl⟩) (H_now 0 (by decide)) rfl rfl (Nat.le_of_ble_eq_true rfl) (Nat.zero_le _) (Nat.zero_le _) rfl dX10_held_38 (fun r38 enx hw => ?_)
    obtain ⟨rfl, rfl⟩ := hw
    have h := Option.some.inj h
    subst h
    exact Kr _ _ _ _ (nar_i _) ⟨rfl, e_tt, hfr⟩ dX10_held_41
  have h := ifp c22 h
  refine G_lv [0] rfl ?_
  exact hB25 _ _ _ _ e_tt H_now hfr h
def f_X10_think (bads : Int32) (noes : Int32) (fulls : Int32) (now : HallV) (bl : Int32) (kp : Int32) (ring : Nat → HallV) (x1 : Int32) : Option (Int32 × Int32 × Int32 × Int32 × HallV × Int32 × Int32 × (Nat → HallV)) := Option.bind (f_X8_holds (now.1 0) x1) (fun q8 => if q8 = 0 then (Option.bind (f_X10_counted bads noes fulls (-2 : Int32)) (fun q17 => some (q17.1, q17.2.1, q17.2.2.1, q17.2.2.2, now, bl, kp, ring))) else (Option.bind (f_X5_keep now bl kp ring) (fun q29 => Option.bind (f_X1_thinkOf now x1) (fun q37 => some (q37.1, bads, noes, fulls, q37.2, q29.1, q29.2.1, q29.2.2)))))
set_option maxHeartbeats 4000000 in
set_option maxRecDepth 100000 in
theorem c_X10_think {D : va_G} {cs : Nat → ClassId} {sa : Nat → Nat} {n : Nat} {ad : Nat → Nat} {A : Nat → Prop} (l : Launch) {en : Nat → va_E}  {keptImages : Int32} {fab : Int64} {fbe : Int64} {bads : Int32} {noes : Int32} {fulls : Int32} {now : HallV} {bl : Int32} {kp : Int32} {ring : Nat → HallV} {x1 : Int32}  {q : Int32 × Int32 × Int32 × Int32 × HallV × Int32 × Int32 × (Nat → HallV)} (hn : 110 ≤ n) (e_tt : en 0 = .inr (7, [.ref (ad 1), .ref (ad 12), .ref (ad 58), .ref (ad 81), .ref (ad 83), .ref (ad 96), .ref (ad 98), .int keptImages, .long fab, .long fbe, .int bads, .int noes, .int fulls])) (e_past : en 12 = .inr (2, [.ref (ad 13), .int bl, .int kp])) (e_ringarr : en 13 = .inl (cs 4, 4, .inr (.inr (.inr (.inr (ringF ad)))))) (H_now : Hall cs ad en 1 now) (F_ring : (∀ i, i < 4 → Hall cs ad en (14 + 11 * i) (ring i))) (h : f_X10_think bads noes fulls now bl kp ring x1 = some q) : Met l yX10_think wsX10_think { frames := 4, cells := 0, slots := 0, locals := 91 } (va_Pc [.ref (ad 0), .int x1] (Wd D cs sa n ad A en)) (va_Qi (fun r u => q.1 = r ∧ u 0 = .inr (7, [.ref (ad 1), .ref (ad 12), .ref (ad 58), .ref (ad 81), .ref (ad 83), .ref (ad 96), .ref (ad 98), .int keptImages, .long fab, .long fbe, .int q.2.1, .int q.2.2.1, .int q.2.2.2.1]) ∧ u 12 = .inr (2, [.ref (ad 13), .int q.2.2.2.2.2.1, .int q.2.2.2.2.2.2.1]) ∧ Hall cs ad u 1 q.2.2.2.2.1 ∧ (∀ i, i < 4 → Hall cs ad u (14 + 11 * i) (q.2.2.2.2.2.2.2 i)) ∧ (∀ j, (j < 0 ∨ 1 ≤ j) → (j < 12 ∨ 13 ≤ j) → (j < 1 ∨ 12 ≤ j) → (j < 14 ∨ 58 ≤ j) → u j = en j)) (Wd D cs sa n ad A) A) 0 0 A := by
  refine G_startI cX10_think 2 [(0, .ref (ad 0)), (1, .int x1)] (by decide) rfl (Nat.le_of_ble_eq_true rfl) rfl ?_
  intro p e s m args below meth c Q hC hnm Kr
  have inX1 : ∀ w ∈ u_ws RX1 TX1 6, w ∈ wsX10_think := by decide +kernel
  have inX10 : ∀ w ∈ u_ws RX10 TX10 13, w ∈ wsX10_think := by decide +kernel
  have m10 : Cond.fieldLink RX10 10 "TongueTip" "now" "LTongueTip$Hall;" ∈ wsX10_think := by decide +kernel
  have m19 : Cond.fieldLink RX10 19 "TongueTip" "past" "LTongueTip$Past;" ∈ wsX10_think := by decide +kernel
  have m80 : Cond.fieldLink RX10 80 "TongueTip$Hall" "people" "LTongueTip$Table;" ∈ wsX10_think := by decide +kernel
  unfold f_X10_think at h
  have hfr : ∀ j, (j < 0 ∨ 1 ≤ j) → (j < 12 ∨ 13 ≤ j) → (j < 1 ∨ 12 ≤ j) → (j < 14 ∨ 58 ≤ j) → en j = en j := fun _ _ _ _ _ => rfl
  refine G_aload_n hC 0 0 rfl rfl dX10_think_0 ?_
  refine G_get hC inX10 0 (by omega) (v := .ref (ad 1)) e_tt rfl 0 (by decide) m10 rfl rfl dX10_think_1 ?_
  refine G_get hC inX1 1 (by omega) (v := .ref (ad (2))) (H_now 0 (by decide)) rfl 0 (by decide) m80 rfl rfl dX10_think_4 ?_
  refine G_iload_n hC 1 1 rfl rfl dX10_think_7 ?_
  obtain ⟨q8, h8, h⟩ := bnd h
  refine G_cVi (st := []) hC _ (1 + 1) (by omega) (c_X8_holds (pp := 1 + 1) l (by omega) (H_now 1 (by decide)) h8) (cwV 1 hC.hts gX10_think_X8_holds rfl rfl rfl (by decide +kernel) ⟨Nat.le_of_ble_eq_true rfl, Nat.le_of_ble_eq_true rfl⟩) (H_now 1 (by decide)) rfl rfl (Nat.le_of_ble_eq_true rfl) (Nat.zero_le _) (Nat.zero_le _) rfl dX10_think_8 (fun r8 enx hw => ?_)
  obtain ⟨rfl, rfl⟩ := hw
  refine G_if_ne hC 21 dX10_think_11 (by decide) (fun c11 => ?_) (fun c11 => ?_)
  · have h := ifn c11 h
    refine G_aload_n hC 0 0 rfl rfl dX10_think_21 ?_
    refine G_get hC inX10 0 (by omega) (v := .ref (ad 12)) e_tt rfl 1 (by decide) m19 rfl rfl dX10_think_22 ?_
    refine G_aload_n hC 0 0 rfl rfl dX10_think_25 ?_
    refine G_get hC inX10 0 (by omega) (v := .ref (ad 1)) e_tt rfl 0 (by decide) m10 rfl rfl dX10_think_26 ?_
    obtain ⟨q29, h29, h⟩ := bnd h
    refine G_cVv (st := []) hC _ 12 (by omega) (c_X5_keep  l (by omega) e_past e_ringarr H_now F_ring h29) (cwV 1 hC.hts gX10_think_X5_keep rfl rfl rfl (by decide +kernel) ⟨Nat.le_of_ble_eq_true rfl, Nat.le_of_ble_eq_true rfl⟩) e_past rfl rfl (Nat.le_of_ble_eq_true rfl) (Nat.zero_le _) (Nat.zero_le _) rfl dX10_think_29 (fun en2 hw => ?_)
    obtain ⟨e_past, F_ring, fr⟩ := hw
    have e_tt := (fr 0 (by omega) (by omega)).trans e_tt
    have e_ringarr := (fr 13 (by omega) (by omega)).trans e_ringarr
    have H_now := H_now.fr (fun j h1 h2 => fr j (by omega) (by omega))
    have hfr : ∀ j, (j < 0 ∨ 1 ≤ j) → (j < 12 ∨ 13 ≤ j) → (j < 1 ∨ 12 ≤ j) → (j < 14 ∨ 58 ≤ j) → en2 j = en j := fun j o0 o1 o2 o3 => (fr j (by omega) (by omega)).trans (hfr j o0 o1 o2 o3)
    refine G_aload_n hC 0 0 rfl rfl dX10_think_32 ?_
    refine G_get hC inX10 0 (by omega) (v := .ref (ad 1)) e_tt rfl 0 (by decide) m10 rfl rfl dX10_think_33 ?_
    refine G_iload_n hC 1 1 rfl rfl dX10_think_36 ?_
    obtain ⟨q37, h37, h⟩ := bnd h
    refine G_cVi (st := []) hC _ 1 (by omega) (c_X1_thinkOf (kk := 1) l (by omega) H_now h37) (cwV 1 hC.hts gX10_think_X1_thinkOf rfl rfl rfl (by decide +kernel) ⟨Nat.le_of_ble_eq_true rfl, Nat.le_of_ble_eq_true rfl⟩) (H_now 0 (by decide)) rfl rfl (Nat.le_of_ble_eq_true rfl) (Nat.zero_le _) (Nat.zero_le _) rfl dX10_think_37 (fun r37 en3 hw => ?_)
    obtain ⟨rfl, H_now, fr⟩ := hw
    have e_tt := (fr 0 (by omega)).trans e_tt
    have e_past := (fr 12 (by omega)).trans e_past
    have e_ringarr := (fr 13 (by omega)).trans e_ringarr
    have F_ring := fun i (hi : i < 4) => (F_ring i hi).fr (fun j h1 h2 => fr j (by omega))
    have hfr : ∀ j, (j < 0 ∨ 1 ≤ j) → (j < 12 ∨ 13 ≤ j) → (j < 1 ∨ 12 ≤ j) → (j < 14 ∨ 58 ≤ j) → en3 j = en j := fun j o0 o1 o2 o3 => (fr j (by omega)).trans (hfr j o0 o1 o2 o3)
    have h := Option.some.inj h
    subst h
    exact Kr _ _ _ _ (nar_i _) ⟨rfl, e_tt, e_past, H_now, F_ring, hfr⟩ dX10_think_40
  have h := ifp c11 h
  refine G_aload_n hC 0 0 rfl rfl dX10_think_14 ?_
  refine G_bipush hC (v := (-2)) (by decide) dX10_think_15 ?_
  obtain ⟨q17, h17, h⟩ := bnd h
  refine G_cVi (st := []) hC _ 0 (by omega) (c_X10_counted  l (by omega) e_tt h17) (cwV 1 hC.hts gX10_think_X10_counted rfl rfl rfl (by decide +kernel) ⟨Nat.le_of_ble_eq_true rfl, Nat.le_of_ble_eq_true rfl⟩) e_tt rfl rfl (Nat.le_of_ble_eq_true rfl) (Nat.zero_le _) (Nat.zero_le _) rfl dX10_think_17 (fun r17 en4 hw => ?_)
  obtain ⟨rfl, e_tt, fr⟩ := hw
  have e_past := (fr 12 (by omega)).trans e_past
  have e_ringarr := (fr 13 (by omega)).trans e_ringarr
  have H_now := H_now.fr (fun j h1 h2 => fr j (by omega))
  have F_ring := fun i (hi : i < 4) => (F_ring i hi).fr (fun j h1 h2 => fr j (by omega))
  have hfr : ∀ j, (j < 0 ∨ 1 ≤ j) → (j < 12 ∨ 13 ≤ j) → (j < 1 ∨ 12 ≤ j) → (j < 14 ∨ 58 ≤ j) → en4 j = en j := fun j o0 o1 o2 o3 => (fr j (by omega)).trans (hfr j o0 o1 o2 o3)
  have h := Option.some.inj h
  subst h
  exact Kr _ _ _ _ (nar_i _) ⟨rfl, e_tt, e_past, H_now, F_ring, hfr⟩ dX10_think_20
def f_X10_days (bads : Int32) (noes : Int32) (fulls : Int32) (now : HallV) (bl : Int32) (kp : Int32) (ring : Nat → HallV) (x1 : Int32) : Option (Int32 × Int32 × Int32 × Int32 × HallV × Int32 × Int32 × (Nat → HallV)) := Option.bind (f_X10_within x1 (1 : Int32) (999 : Int32)) (fun q5 => if q5 = 0 then (Option.bind (f_X10_counted bads noes fulls (-2 : Int32)) (fun q14 => some (q14.1, q14.2.1, q14.2.2.1, q14.2.2.2, now, bl, kp, ring))) else (if now.2.2 + x1 ≤ (999 : Int32) then (Option.bind (f_X5_keep now bl kp ring) (fun q48 => some ((hsD now (now.2.2 + x1)).2.2, bads, noes, fulls, hsD now (now.2.2 + x1), q48.1, q48.2.1, q48.2.2))) else (Option.bind (f_X10_counted bads noes fulls (-3 : Int32)) (fun q36 => some (q36.1, q36.2.1, q36.2.2.1, q36.2.2.2, now, bl, kp, ring)))))
set_option maxHeartbeats 4000000 in
set_option maxRecDepth 100000 in
theorem c_X10_days {D : va_G} {cs : Nat → ClassId} {sa : Nat → Nat} {n : Nat} {ad : Nat → Nat} {A : Nat → Prop} (l : Launch) {en : Nat → va_E}  {keptImages : Int32} {fab : Int64} {fbe : Int64} {bads : Int32} {noes : Int32} {fulls : Int32} {now : HallV} {bl : Int32} {kp : Int32} {ring : Nat → HallV} {x1 : Int32}  {q : Int32 × Int32 × Int32 × Int32 × HallV × Int32 × Int32 × (Nat → HallV)} (hn : 110 ≤ n) (e_tt : en 0 = .inr (7, [.ref (ad 1), .ref (ad 12), .ref (ad 58), .ref (ad 81), .ref (ad 83), .ref (ad 96), .ref (ad 98), .int keptImages, .long fab, .long fbe, .int bads, .int noes, .int fulls])) (e_past : en 12 = .inr (2, [.ref (ad 13), .int bl, .int kp])) (e_ringarr : en 13 = .inl (cs 4, 4, .inr (.inr (.inr (.inr (ringF ad)))))) (H_now : Hall cs ad en 1 now) (F_ring : (∀ i, i < 4 → Hall cs ad en (14 + 11 * i) (ring i))) (h : f_X10_days bads noes fulls now bl kp ring x1 = some q) : Met l yX10_days wsX10_days { frames := 3, cells := 0, slots := 0, locals := 65 } (va_Pc [.ref (ad 0), .int x1] (Wd D cs sa n ad A en)) (va_Qi (fun r u => q.1 = r ∧ u 0 = .inr (7, [.ref (ad 1), .ref (ad 12), .ref (ad 58), .ref (ad 81), .ref (ad 83), .ref (ad 96), .ref (ad 98), .int keptImages, .long fab, .long fbe, .int q.2.1, .int q.2.2.1, .int q.2.2.2.1]) ∧ u 12 = .inr (2, [.ref (ad 13), .int q.2.2.2.2.2.1, .int q.2.2.2.2.2.2.1]) ∧ Hall cs ad u 1 q.2.2.2.2.1 ∧ (∀ i, i < 4 → Hall cs ad u (14 + 11 * i) (q.2.2.2.2.2.2.2 i)) ∧ (∀ j, (j < 0 ∨ 1 ≤ j) → (j < 12 ∨ 13 ≤ j) → (j < 1 ∨ 12 ≤ j) → (j < 14 ∨ 58 ≤ j) → u j = en j)) (Wd D cs sa n ad A) A) 0 0 A := by
  refine G_startI cX10_days 2 [(0, .ref (ad 0)), (1, .int x1)] (by decide) rfl (Nat.le_of_ble_eq_true rfl) rfl ?_
  intro p e s m args below meth c Q hC hnm Kr
  have inX1 : ∀ w ∈ u_ws RX1 TX1 6, w ∈ wsX10_days := by decide +kernel
  have inX10 : ∀ w ∈ u_ws RX10 TX10 13, w ∈ wsX10_days := by decide +kernel
  have m10 : Cond.fieldLink RX10 10 "TongueTip" "now" "LTongueTip$Hall;" ∈ wsX10_days := by decide +kernel
  have m104 : Cond.fieldLink RX10 104 "TongueTip$Hall" "day" "I" ∈ wsX10_days := by decide +kernel
  have m19 : Cond.fieldLink RX10 19 "TongueTip" "past" "LTongueTip$Past;" ∈ wsX10_days := by decide +kernel
  unfold f_X10_days at h
  have hfr : ∀ j, (j < 0 ∨ 1 ≤ j) → (j < 12 ∨ 13 ≤ j) → (j < 1 ∨ 12 ≤ j) → (j < 14 ∨ 58 ≤ j) → en j = en j := fun _ _ _ _ _ => rfl
  refine G_iload_n hC 1 1 rfl rfl dX10_days_0 ?_
  refine G_iconst hC (v := 1) (by decide) dX10_days_1 ?_
  refine G_sipush hC (v := 999) (by decide) dX10_days_2 ?_
  obtain ⟨q5, h5, h⟩ := bnd h
  refine G_cSi (st := []) hC _ (c_X10_within  l  h5) (va_cwS 3 hC.hts gX10_days_X10_within rfl rfl rfl (by decide +kernel) ⟨Nat.le_of_ble_eq_true rfl, Nat.le_of_ble_eq_true rfl⟩) rfl (Nat.le_of_ble_eq_true rfl) (Nat.zero_le _) (Nat.zero_le _) rfl dX10_days_5 (fun r5 enx hw => ?_)
  obtain ⟨rfl, rfl⟩ := hw
  refine G_if_ne hC 18 dX10_days_8 (by decide) (fun c8 => ?_) (fun c8 => ?_)
  · have h := ifn c8 h
    refine G_aload_n hC 0 0 rfl rfl dX10_days_18 ?_
    refine G_get hC inX10 0 (by omega) (v := .ref (ad 1)) e_tt rfl 0 (by decide) m10 rfl rfl dX10_days_19 ?_
    refine G_get hC inX1 1 (by omega) (v := .int now.2.2) (H_now 0 (by decide)) rfl 5 (by decide) m104 rfl rfl dX10_days_22 ?_
    refine G_iload_n hC 1 1 rfl rfl dX10_days_25 ?_
    refine G_iadd hC dX10_days_26 ?_
    refine G_sipush hC (v := 999) (by decide) dX10_days_27 ?_
    refine G_icmp_le hC 40 dX10_days_30 (by decide) (fun c30 => ?_) (fun c30 => ?_)
    · have h := ifp c30 h
      refine G_aload_n hC 0 0 rfl rfl dX10_days_40 ?_
      refine G_get hC inX10 0 (by omega) (v := .ref (ad 12)) e_tt rfl 1 (by decide) m19 rfl rfl dX10_days_41 ?_
      refine G_aload_n hC 0 0 rfl rfl dX10_days_44 ?_
      refine G_get hC inX10 0 (by omega) (v := .ref (ad 1)) e_tt rfl 0 (by decide) m10 rfl rfl dX10_days_45 ?_
      obtain ⟨q48, h48, h⟩ := bnd h
      refine G_cVv (st := []) hC _ 12 (by omega) (c_X5_keep  l (by omega) e_past e_ringarr H_now F_ring h48) (cwV 1 hC.hts gX10_days_X5_keep rfl rfl rfl (by decide +kernel) ⟨Nat.le_of_ble_eq_true rfl, Nat.le_of_ble_eq_true rfl⟩) e_past rfl rfl (Nat.le_of_ble_eq_true rfl) (Nat.zero_le _) (Nat.zero_le _) rfl dX10_days_48 (fun en2 hw => ?_)
      obtain ⟨e_past, F_ring, fr⟩ := hw
      have e_tt := (fr 0 (by omega) (by omega)).trans e_tt
      have e_ringarr := (fr 13 (by omega) (by omega)).trans e_ringarr
      have H_now := H_now.fr (fun j h1 h2 => fr j (by omega) (by omega))
      have hfr : ∀ j, (j < 0 ∨ 1 ≤ j) → (j < 12 ∨ 13 ≤ j) → (j < 1 ∨ 12 ≤ j) → (j < 14 ∨ 58 ≤ j) → en2 j = en j := fun j o0 o1 o2 o3 => (fr j (by omega) (by omega)).trans (hfr j o0 o1 o2 o3)
      refine G_aload_n hC 0 0 rfl rfl dX10_days_51 ?_
      refine G_get hC inX10 0 (by omega) (v := .ref (ad 1)) e_tt rfl 0 (by decide) m10 rfl rfl dX10_days_52 ?_
      refine G_dup hC rfl dX10_days_55 ?_
      refine G_get hC inX1 1 (by omega) (v := .int now.2.2) (H_now 0 (by decide)) rfl 5 (by decide) m104 rfl rfl dX10_days_56 ?_
      refine G_iload_n hC 1 1 rfl rfl dX10_days_59 ?_
      refine G_iadd hC dX10_days_60 ?_
      refine G_put hC inX1 tyX1 tyX1_ok nmX1 1 (by omega) (H_now 0 (by decide)) rfl 5 (by decide) m104 rfl rfl (ty := .int) rfl rfl rfl (Nat.le_of_ble_eq_true rfl) dX10_days_61 (fun en3 e0 fr => ?_)
      have H_now : Hall cs ad en3 1 (hsD now (now.2.2 + x1)) := H_now.upD e0 fr
      have e_tt := (fr 0 (by omega)).trans e_tt
      have e_past := (fr 12 (by omega)).trans e_past
      have e_ringarr := (fr 13 (by omega)).trans e_ringarr
      have F_ring := fun i (hi : i < 4) => (F_ring i hi).fr (fun j h1 h2 => fr j (by omega))
      have hfr : ∀ j, (j < 0 ∨ 1 ≤ j) → (j < 12 ∨ 13 ≤ j) → (j < 1 ∨ 12 ≤ j) → (j < 14 ∨ 58 ≤ j) → en3 j = en j := fun j o0 o1 o2 o3 => (fr j (by omega)).trans (hfr j o0 o1 o2 o3)
      refine G_aload_n hC 0 0 rfl rfl dX10_days_64 ?_
      refine G_get hC inX10 0 (by omega) (v := .ref (ad 1)) e_tt rfl 0 (by decide) m10 rfl rfl dX10_days_65 ?_
      refine G_get hC inX1 1 (by omega) (v := .int ((hsD now (now.2.2 + x1)).2.2)) (H_now 0 (by decide)) rfl 5 (by decide) m104 rfl rfl dX10_days_68 ?_
      have h := Option.some.inj h
      subst h
      exact Kr _ _ _ _ (nar_i _) ⟨rfl, e_tt, e_past, H_now, F_ring, hfr⟩ dX10_days_71
    have h := ifn c30 h
    refine G_aload_n hC 0 0 rfl rfl dX10_days_33 ?_
    refine G_bipush hC (v := (-3)) (by decide) dX10_days_34 ?_
    obtain ⟨q36, h36, h⟩ := bnd h
    refine G_cVi (st := []) hC _ 0 (by omega) (c_X10_counted  l (by omega) e_tt h36) (cwV 1 hC.hts gX10_days_X10_counted rfl rfl rfl (by decide +kernel) ⟨Nat.le_of_ble_eq_true rfl, Nat.le_of_ble_eq_true rfl⟩) e_tt rfl rfl (Nat.le_of_ble_eq_true rfl) (Nat.zero_le _) (Nat.zero_le _) rfl dX10_days_36 (fun r36 en4 hw => ?_)
    obtain ⟨rfl, e_tt, fr⟩ := hw
    have e_past := (fr 12 (by omega)).trans e_past
    have e_ringarr := (fr 13 (by omega)).trans e_ringarr
    have H_now := H_now.fr (fun j h1 h2 => fr j (by omega))
    have F_ring := fun i (hi : i < 4) => (F_ring i hi).fr (fun j h1 h2 => fr j (by omega))
    have hfr : ∀ j, (j < 0 ∨ 1 ≤ j) → (j < 12 ∨ 13 ≤ j) → (j < 1 ∨ 12 ≤ j) → (j < 14 ∨ 58 ≤ j) → en4 j = en j := fun j o0 o1 o2 o3 => (fr j (by omega)).trans (hfr j o0 o1 o2 o3)
    have h := Option.some.inj h
    subst h
    exact Kr _ _ _ _ (nar_i _) ⟨rfl, e_tt, e_past, H_now, F_ring, hfr⟩ dX10_days_39
  have h := ifp c8 h
  refine G_aload_n hC 0 0 rfl rfl dX10_days_11 ?_
  refine G_bipush hC (v := (-2)) (by decide) dX10_days_12 ?_
  obtain ⟨q14, h14, h⟩ := bnd h
  refine G_cVi (st := []) hC _ 0 (by omega) (c_X10_counted  l (by omega) e_tt h14) (cwV 1 hC.hts gX10_days_X10_counted rfl rfl rfl (by decide +kernel) ⟨Nat.le_of_ble_eq_true rfl, Nat.le_of_ble_eq_true rfl⟩) e_tt rfl rfl (Nat.le_of_ble_eq_true rfl) (Nat.zero_le _) (Nat.zero_le _) rfl dX10_days_14 (fun r14 en5 hw => ?_)
  obtain ⟨rfl, e_tt, fr⟩ := hw
  have e_past := (fr 12 (by omega)).trans e_past
  have e_ringarr := (fr 13 (by omega)).trans e_ringarr
  have H_now := H_now.fr (fun j h1 h2 => fr j (by omega))
  have F_ring := fun i (hi : i < 4) => (F_ring i hi).fr (fun j h1 h2 => fr j (by omega))
  have hfr : ∀ j, (j < 0 ∨ 1 ≤ j) → (j < 12 ∨ 13 ≤ j) → (j < 1 ∨ 12 ≤ j) → (j < 14 ∨ 58 ≤ j) → en5 j = en j := fun j o0 o1 o2 o3 => (fr j (by omega)).trans (hfr j o0 o1 o2 o3)
  have h := Option.some.inj h
  subst h
  exact Kr _ _ _ _ (nar_i _) ⟨rfl, e_tt, e_past, H_now, F_ring, hfr⟩ dX10_days_17
def f_X10_undo (bads : Int32) (noes : Int32) (fulls : Int32) (now : HallV) (bl : Int32) (kp : Int32) (ring : Nat → HallV)  : Option (Int32 × Int32 × Int32 × Int32 × HallV × Int32 × Int32) := Option.bind (f_X5_giveBack now bl kp ring) (fun q8 => if q8.1 = 0 then (Option.bind (f_X10_counted bads noes fulls (-3 : Int32)) (fun q21 => some (q21.1, q21.2.1, q21.2.2.1, q21.2.2.2, q8.2.1, q8.2.2.1, q8.2.2.2))) else (some ((1 : Int32), bads, noes, fulls, q8.2.1, q8.2.2.1, q8.2.2.2)))
set_option maxHeartbeats 4000000 in
set_option maxRecDepth 100000 in
theorem c_X10_undo {D : va_G} {cs : Nat → ClassId} {sa : Nat → Nat} {n : Nat} {ad : Nat → Nat} {A : Nat → Prop} (l : Launch) {en : Nat → va_E}  {keptImages : Int32} {fab : Int64} {fbe : Int64} {bads : Int32} {noes : Int32} {fulls : Int32} {now : HallV} {bl : Int32} {kp : Int32} {ring : Nat → HallV}   {q : Int32 × Int32 × Int32 × Int32 × HallV × Int32 × Int32} (hn : 110 ≤ n) (e_tt : en 0 = .inr (7, [.ref (ad 1), .ref (ad 12), .ref (ad 58), .ref (ad 81), .ref (ad 83), .ref (ad 96), .ref (ad 98), .int keptImages, .long fab, .long fbe, .int bads, .int noes, .int fulls])) (e_past : en 12 = .inr (2, [.ref (ad 13), .int bl, .int kp])) (e_ringarr : en 13 = .inl (cs 4, 4, .inr (.inr (.inr (.inr (ringF ad)))))) (H_now : Hall cs ad en 1 now) (F_ring : (∀ i, i < 4 → Hall cs ad en (14 + 11 * i) (ring i))) (h : f_X10_undo bads noes fulls now bl kp ring = some q) : Met l yX10_undo wsX10_undo { frames := 3, cells := 0, slots := 0, locals := 66 } (va_Pc [.ref (ad 0)] (Wd D cs sa n ad A en)) (va_Qi (fun r u => q.1 = r ∧ u 0 = .inr (7, [.ref (ad 1), .ref (ad 12), .ref (ad 58), .ref (ad 81), .ref (ad 83), .ref (ad 96), .ref (ad 98), .int keptImages, .long fab, .long fbe, .int q.2.1, .int q.2.2.1, .int q.2.2.2.1]) ∧ u 12 = .inr (2, [.ref (ad 13), .int q.2.2.2.2.2.1, .int q.2.2.2.2.2.2]) ∧ Hall cs ad u 1 q.2.2.2.2.1 ∧ (∀ j, (j < 0 ∨ 1 ≤ j) → (j < 12 ∨ 13 ≤ j) → (j < 1 ∨ 12 ≤ j) → u j = en j)) (Wd D cs sa n ad A) A) 0 0 A := by
  refine G_startI cX10_undo 1 [(0, .ref (ad 0))] (by decide) rfl (Nat.le_of_ble_eq_true rfl) rfl ?_
  intro p e s m args below meth c Q hC hnm Kr
  have inX10 : ∀ w ∈ u_ws RX10 TX10 13, w ∈ wsX10_undo := by decide +kernel
  have m10 : Cond.fieldLink RX10 10 "TongueTip" "now" "LTongueTip$Hall;" ∈ wsX10_undo := by decide +kernel
  have m19 : Cond.fieldLink RX10 19 "TongueTip" "past" "LTongueTip$Past;" ∈ wsX10_undo := by decide +kernel
  unfold f_X10_undo at h
  have hfr : ∀ j, (j < 0 ∨ 1 ≤ j) → (j < 12 ∨ 13 ≤ j) → (j < 1 ∨ 12 ≤ j) → en j = en j := fun _ _ _ _ => rfl
  refine G_aload_n hC 0 0 rfl rfl dX10_undo_0 ?_
  refine G_get hC inX10 0 (by omega) (v := .ref (ad 12)) e_tt rfl 1 (by decide) m19 rfl rfl dX10_undo_1 ?_
  refine G_aload_n hC 0 0 rfl rfl dX10_undo_4 ?_
  refine G_get hC inX10 0 (by omega) (v := .ref (ad 1)) e_tt rfl 0 (by decide) m10 rfl rfl dX10_undo_5 ?_
  obtain ⟨q8, h8, h⟩ := bnd h
  refine G_cVi (st := []) hC _ 12 (by omega) (c_X5_giveBack  l (by omega) e_past e_ringarr H_now F_ring h8) (cwV 1 hC.hts gX10_undo_X5_giveBack rfl rfl rfl (by decide +kernel) ⟨Nat.le_of_ble_eq_true rfl, Nat.le_of_ble_eq_true rfl⟩) e_past rfl rfl (Nat.le_of_ble_eq_true rfl) (Nat.zero_le _) (Nat.zero_le _) rfl dX10_undo_8 (fun r8 en2 hw => ?_)
  obtain ⟨rfl, e_past, H_now, fr⟩ := hw
  have e_tt := (fr 0 (by omega) (by omega)).trans e_tt
  have e_ringarr := (fr 13 (by omega) (by omega)).trans e_ringarr
  have F_ring := fun i (hi : i < 4) => (F_ring i hi).fr (fun j h1 h2 => fr j (by omega) (by omega))
  have hfr : ∀ j, (j < 0 ∨ 1 ≤ j) → (j < 12 ∨ 13 ≤ j) → (j < 1 ∨ 12 ≤ j) → en2 j = en j := fun j o0 o1 o2 => (fr j (by omega) (by omega)).trans (hfr j o0 o1 o2)
  refine G_if_eq hC 18 dX10_undo_11 (by decide) (fun c11 => ?_) (fun c11 => ?_)
  · have h := ifp c11 h
    refine G_aload_n hC 0 0 rfl rfl dX10_undo_18 ?_
    refine G_bipush hC (v := (-3)) (by decide) dX10_undo_19 ?_
    obtain ⟨q21, h21, h⟩ := bnd h
    refine G_cVi (st := []) hC _ 0 (by omega) (c_X10_counted  l (by omega) e_tt h21) (cwV 1 hC.hts gX10_undo_X10_counted rfl rfl rfl (by decide +kernel) ⟨Nat.le_of_ble_eq_true rfl, Nat.le_of_ble_eq_true rfl⟩) e_tt rfl rfl (Nat.le_of_ble_eq_true rfl) (Nat.zero_le _) (Nat.zero_le _) rfl dX10_undo_21 (fun r21 en3 hw => ?_)
    obtain ⟨rfl, e_tt, fr⟩ := hw
    have e_past := (fr 12 (by omega)).trans e_past
    have e_ringarr := (fr 13 (by omega)).trans e_ringarr
    have H_now := H_now.fr (fun j h1 h2 => fr j (by omega))
    have F_ring := fun i (hi : i < 4) => (F_ring i hi).fr (fun j h1 h2 => fr j (by omega))
    have hfr : ∀ j, (j < 0 ∨ 1 ≤ j) → (j < 12 ∨ 13 ≤ j) → (j < 1 ∨ 12 ≤ j) → en3 j = en j := fun j o0 o1 o2 => (fr j (by omega)).trans (hfr j o0 o1 o2)
    have h := Option.some.inj h
    subst h
    exact Kr _ _ _ _ (nar_i _) ⟨rfl, e_tt, e_past, H_now, hfr⟩ dX10_undo_24
  have h := ifn c11 h
  refine G_iconst hC (v := 1) (by decide) dX10_undo_14 ?_
  refine G_goto hC 24 dX10_undo_15 (by decide) ?_
  have h := Option.some.inj h
  subst h
  exact Kr _ _ _ _ (nar_i _) ⟨rfl, e_tt, e_past, H_now, hfr⟩ dX10_undo_24
def f_X10_type (bads : Int32) (noes : Int32) (fulls : Int32) (tlen : Int32) (tby : Nat → Int32) (x1 : Int64) (x3 : Int32) : Option (Int32 × Int32 × Int32 × Int32 × Int32 × (Nat → Int32)) := Option.bind (f_X9_add tlen tby x1 x3) (fun q7 => Option.bind (f_X10_counted bads noes fulls q7.1) (fun q10 => some (q10.1, q10.2.1, q10.2.2.1, q10.2.2.2, q7.2.1, q7.2.2)))
set_option maxHeartbeats 4000000 in
set_option maxRecDepth 100000 in
theorem c_X10_type {D : va_G} {cs : Nat → ClassId} {sa : Nat → Nat} {n : Nat} {ad : Nat → Nat} {A : Nat → Prop} (l : Launch) {en : Nat → va_E}  {keptImages : Int32} {fab : Int64} {fbe : Int64} {bads : Int32} {noes : Int32} {fulls : Int32} {tlen : Int32} {tby : Nat → Int32} {x1 : Int64} {x3 : Int32}  {q : Int32 × Int32 × Int32 × Int32 × Int32 × (Nat → Int32)} (hn : 110 ≤ n) (e_tt : en 0 = .inr (7, [.ref (ad 1), .ref (ad 12), .ref (ad 58), .ref (ad 81), .ref (ad 83), .ref (ad 96), .ref (ad 98), .int keptImages, .long fab, .long fbe, .int bads, .int noes, .int fulls])) (e_text : en 81 = .inr (6, [.ref (ad 82), .int tlen])) (e_tbytes : en 82 = .inl (cs 0, 300, .inl (tby))) (h : f_X10_type bads noes fulls tlen tby x1 x3 = some q) : Met l yX10_type wsX10_type { frames := 2, cells := 0, slots := 0, locals := 46 } (va_Pc [.ref (ad 0), .long x1, .int x3] (Wd D cs sa n ad A en)) (va_Qi (fun r u => q.1 = r ∧ u 0 = .inr (7, [.ref (ad 1), .ref (ad 12), .ref (ad 58), .ref (ad 81), .ref (ad 83), .ref (ad 96), .ref (ad 98), .int keptImages, .long fab, .long fbe, .int q.2.1, .int q.2.2.1, .int q.2.2.2.1]) ∧ u 81 = .inr (6, [.ref (ad 82), .int q.2.2.2.2.1]) ∧ u 82 = .inl (cs 0, 300, .inl (q.2.2.2.2.2)) ∧ (∀ j, (j < 0 ∨ 1 ≤ j) → (j < 81 ∨ 82 ≤ j) → (j < 82 ∨ 83 ≤ j) → u j = en j)) (Wd D cs sa n ad A) A) 0 0 A := by
  refine G_startI cX10_type 4 [(0, .ref (ad 0)), (1, .long x1), (3, .int x3)] (by decide) rfl (Nat.le_of_ble_eq_true rfl) rfl ?_
  intro p e s m args below meth c Q hC hnm Kr
  have inX10 : ∀ w ∈ u_ws RX10 TX10 13, w ∈ wsX10_type := by decide +kernel
  have m30 : Cond.fieldLink RX10 30 "TongueTip" "text" "LTongueTip$Text;" ∈ wsX10_type := by decide +kernel
  unfold f_X10_type at h
  have hfr : ∀ j, (j < 0 ∨ 1 ≤ j) → (j < 81 ∨ 82 ≤ j) → (j < 82 ∨ 83 ≤ j) → en j = en j := fun _ _ _ _ => rfl
  refine G_aload_n hC 0 0 rfl rfl dX10_type_0 ?_
  refine G_aload_n hC 0 0 rfl rfl dX10_type_1 ?_
  refine G_get hC inX10 0 (by omega) (v := .ref (ad 81)) e_tt rfl 3 (by decide) m30 rfl rfl dX10_type_2 ?_
  refine G_lload_n hC 1 1 rfl rfl dX10_type_5 ?_
  refine G_iload_n hC 3 2 rfl rfl dX10_type_6 ?_
  obtain ⟨q7, h7, h⟩ := bnd h
  refine G_cVi (st := [.ref (ad 0)]) hC _ 81 (by omega) (c_X9_add  l (by omega) e_text e_tbytes h7) (cwV 2 hC.hts gX10_type_X9_add rfl rfl rfl (by decide +kernel) ⟨Nat.le_of_ble_eq_true rfl, Nat.le_of_ble_eq_true rfl⟩) e_text rfl rfl (Nat.le_of_ble_eq_true rfl) (Nat.zero_le _) (Nat.zero_le _) rfl dX10_type_7 (fun r7 en2 hw => ?_)
  obtain ⟨rfl, e_text, e_tbytes, fr⟩ := hw
  have e_tt := (fr 0 (by omega) (by omega)).trans e_tt
  have hfr : ∀ j, (j < 0 ∨ 1 ≤ j) → (j < 81 ∨ 82 ≤ j) → (j < 82 ∨ 83 ≤ j) → en2 j = en j := fun j o0 o1 o2 => (fr j (by omega) (by omega)).trans (hfr j o0 o1 o2)
  obtain ⟨q10, h10, h⟩ := bnd h
  refine G_cVi (st := []) hC _ 0 (by omega) (c_X10_counted  l (by omega) e_tt h10) (cwV 1 hC.hts gX10_type_X10_counted rfl rfl rfl (by decide +kernel) ⟨Nat.le_of_ble_eq_true rfl, Nat.le_of_ble_eq_true rfl⟩) e_tt rfl rfl (Nat.le_of_ble_eq_true rfl) (Nat.zero_le _) (Nat.zero_le _) rfl dX10_type_10 (fun r10 en3 hw => ?_)
  obtain ⟨rfl, e_tt, fr⟩ := hw
  have e_text := (fr 81 (by omega)).trans e_text
  have e_tbytes := (fr 82 (by omega)).trans e_tbytes
  have hfr : ∀ j, (j < 0 ∨ 1 ≤ j) → (j < 81 ∨ 82 ≤ j) → (j < 82 ∨ 83 ≤ j) → en3 j = en j := fun j o0 o1 o2 => (fr j (by omega)).trans (hfr j o0 o1 o2)
  have h := Option.some.inj h
  subst h
  exact Kr _ _ _ _ (nar_i _) ⟨rfl, e_tt, e_text, e_tbytes, hfr⟩ dX10_type_13
def f_X10_clear (tlen : Int32)  : Option (Int32 × Int32) := Option.bind (f_X9_empty tlen) (fun q4 => some (q4.1, q4.2))
set_option maxHeartbeats 4000000 in
set_option maxRecDepth 100000 in
theorem c_X10_clear {D : va_G} {cs : Nat → ClassId} {sa : Nat → Nat} {n : Nat} {ad : Nat → Nat} {A : Nat → Prop} (l : Launch) {en : Nat → va_E}  {keptImages : Int32} {fab : Int64} {fbe : Int64} {bads : Int32} {noes : Int32} {fulls : Int32} {tlen : Int32}   {q : Int32 × Int32} (hn : 110 ≤ n) (e_tt : en 0 = .inr (7, [.ref (ad 1), .ref (ad 12), .ref (ad 58), .ref (ad 81), .ref (ad 83), .ref (ad 96), .ref (ad 98), .int keptImages, .long fab, .long fbe, .int bads, .int noes, .int fulls])) (e_text : en 81 = .inr (6, [.ref (ad 82), .int tlen])) (h : f_X10_clear tlen = some q) : Met l yX10_clear wsX10_clear { frames := 1, cells := 0, slots := 0, locals := 21 } (va_Pc [.ref (ad 0)] (Wd D cs sa n ad A en)) (va_Qi (fun r u => q.1 = r ∧ u 81 = .inr (6, [.ref (ad 82), .int q.2]) ∧ (∀ j, (j < 81 ∨ 82 ≤ j) → u j = en j)) (Wd D cs sa n ad A) A) 0 0 A := by
  refine G_startI cX10_clear 1 [(0, .ref (ad 0))] (by decide) rfl (Nat.le_of_ble_eq_true rfl) rfl ?_
  intro p e s m args below meth c Q hC hnm Kr
  have inX10 : ∀ w ∈ u_ws RX10 TX10 13, w ∈ wsX10_clear := by decide +kernel
  have m30 : Cond.fieldLink RX10 30 "TongueTip" "text" "LTongueTip$Text;" ∈ wsX10_clear := by decide +kernel
  unfold f_X10_clear at h
  have hfr : ∀ j, (j < 81 ∨ 82 ≤ j) → en j = en j := fun _ _ => rfl
  refine G_aload_n hC 0 0 rfl rfl dX10_clear_0 ?_
  refine G_get hC inX10 0 (by omega) (v := .ref (ad 81)) e_tt rfl 3 (by decide) m30 rfl rfl dX10_clear_1 ?_
  obtain ⟨q4, h4, h⟩ := bnd h
  refine G_cVi (st := []) hC _ 81 (by omega) (c_X9_empty  l (by omega) e_text h4) (cwV 0 hC.hts gX10_clear_X9_empty rfl rfl rfl (by decide +kernel) ⟨Nat.le_of_ble_eq_true rfl, Nat.le_of_ble_eq_true rfl⟩) e_text rfl rfl (Nat.le_of_ble_eq_true rfl) (Nat.zero_le _) (Nat.zero_le _) rfl dX10_clear_4 (fun r4 en2 hw => ?_)
  obtain ⟨rfl, e_text, fr⟩ := hw
  have e_tt := (fr 0 (by omega)).trans e_tt
  have hfr : ∀ j, (j < 81 ∨ 82 ≤ j) → en2 j = en j := fun j o0 => (fr j (by omega)).trans (hfr j o0)
  have h := Option.some.inj h
  subst h
  exact Kr _ _ _ _ (nar_i _) ⟨rfl, e_text, hfr⟩ dX10_clear_7
def f_X10_read (now : HallV) (kp : Int32) (tlen : Int32) (tby : Nat → Int32) (rkind : Int32) (rstart : Int32) (rbehind : Int32) (rname : Int64) (ritems : Int32) (rfault : Int32) (rrefused : Int32) (draft : HallV) (rnums : Nat → Int32)  : Option (Int32 × HallV × Int32 × Int32 × Int32 × Int32 × Int64 × Int32 × Int32 × Int32 × HallV × (Nat → Int32)) := Option.bind (f_X6_readInto now tlen tby rkind rstart rbehind rname ritems rfault rrefused draft rnums) (fun q8 => if q8.1 < 0 then (some (q8.1, q8.2.1, kp, q8.2.2.1, q8.2.2.2.1, q8.2.2.2.2.1, q8.2.2.2.2.2.1, q8.2.2.2.2.2.2.1, q8.2.2.2.2.2.2.2.1, q8.2.2.2.2.2.2.2.2.1, q8.2.2.2.2.2.2.2.2.2.1, q8.2.2.2.2.2.2.2.2.2.2)) else (Option.bind (f_X5_forget kp) (fun q20 => some (q8.1, q8.2.1, q20, q8.2.2.1, q8.2.2.2.1, q8.2.2.2.2.1, q8.2.2.2.2.2.1, q8.2.2.2.2.2.2.1, q8.2.2.2.2.2.2.2.1, q8.2.2.2.2.2.2.2.2.1, q8.2.2.2.2.2.2.2.2.2.1, q8.2.2.2.2.2.2.2.2.2.2))))
set_option maxHeartbeats 4000000 in
set_option maxRecDepth 100000 in
theorem c_X10_read {D : va_G} {cs : Nat → ClassId} {sa : Nat → Nat} {n : Nat} {ad : Nat → Nat} {A : Nat → Prop} (l : Launch) {en : Nat → va_E}  {keptImages : Int32} {fab : Int64} {fbe : Int64} {bads : Int32} {noes : Int32} {fulls : Int32} {now : HallV} {bl : Int32} {kp : Int32} {tlen : Int32} {tby : Nat → Int32} {rkind : Int32} {rstart : Int32} {rbehind : Int32} {rname : Int64} {ritems : Int32} {rfault : Int32} {rrefused : Int32} {draft : HallV} {rnums : Nat → Int32}   {q : Int32 × HallV × Int32 × Int32 × Int32 × Int32 × Int64 × Int32 × Int32 × Int32 × HallV × (Nat → Int32)} (hn : 110 ≤ n) (e_tt : en 0 = .inr (7, [.ref (ad 1), .ref (ad 12), .ref (ad 58), .ref (ad 81), .ref (ad 83), .ref (ad 96), .ref (ad 98), .int keptImages, .long fab, .long fbe, .int bads, .int noes, .int fulls])) (e_past : en 12 = .inr (2, [.ref (ad 13), .int bl, .int kp])) (e_text : en 81 = .inr (6, [.ref (ad 82), .int tlen])) (e_reader : en 83 = .inr (3, [.ref (ad 81), .ref (ad 84), .ref (ad 95), .int rkind, .int rstart, .int rbehind, .long rname, .int ritems, .int rfault, .int rrefused])) (e_tbytes : en 82 = .inl (cs 0, 300, .inl (tby))) (e_rnumarr : en 95 = .inl (cs 1, 5, .inl (rnums))) (H_now : Hall cs ad en 1 now) (H_draft : Hall cs ad en 84 draft) (h : f_X10_read now kp tlen tby rkind rstart rbehind rname ritems rfault rrefused draft rnums = some q) : Met l yX10_read wsX10_read { frames := 8, cells := 0, slots := 0, locals := 172 } (va_Pc [.ref (ad 0)] (Wd D cs sa n ad A en)) (va_Qi (fun r u => q.1 = r ∧ u 12 = .inr (2, [.ref (ad 13), .int bl, .int q.2.2.1]) ∧ u 83 = .inr (3, [.ref (ad 81), .ref (ad 84), .ref (ad 95), .int q.2.2.2.1, .int q.2.2.2.2.1, .int q.2.2.2.2.2.1, .long q.2.2.2.2.2.2.1, .int q.2.2.2.2.2.2.2.1, .int q.2.2.2.2.2.2.2.2.1, .int q.2.2.2.2.2.2.2.2.2.1]) ∧ u 95 = .inl (cs 1, 5, .inl (q.2.2.2.2.2.2.2.2.2.2.2)) ∧ Hall cs ad u 1 q.2.1 ∧ Hall cs ad u 84 q.2.2.2.2.2.2.2.2.2.2.1 ∧ (∀ j, (j < 12 ∨ 13 ≤ j) → (j < 83 ∨ 84 ≤ j) → (j < 95 ∨ 96 ≤ j) → (j < 1 ∨ 12 ≤ j) → (j < 84 ∨ 95 ≤ j) → u j = en j)) (Wd D cs sa n ad A) A) 0 0 A := by
  refine G_startI cX10_read 2 [(0, .ref (ad 0))] (by decide) rfl (Nat.le_of_ble_eq_true rfl) rfl ?_
  intro p e s m args below meth c Q hC hnm Kr
  have inX10 : ∀ w ∈ u_ws RX10 TX10 13, w ∈ wsX10_read := by decide +kernel
  have m10 : Cond.fieldLink RX10 10 "TongueTip" "now" "LTongueTip$Hall;" ∈ wsX10_read := by decide +kernel
  have m19 : Cond.fieldLink RX10 19 "TongueTip" "past" "LTongueTip$Past;" ∈ wsX10_read := by decide +kernel
  have m39 : Cond.fieldLink RX10 39 "TongueTip" "reader" "LTongueTip$Reader;" ∈ wsX10_read := by decide +kernel
  unfold f_X10_read at h
  have hfr : ∀ j, (j < 12 ∨ 13 ≤ j) → (j < 83 ∨ 84 ≤ j) → (j < 95 ∨ 96 ≤ j) → (j < 1 ∨ 12 ≤ j) → (j < 84 ∨ 95 ≤ j) → en j = en j := fun _ _ _ _ _ _ => rfl
  refine G_aload_n hC 0 0 rfl rfl dX10_read_0 ?_
  refine G_get hC inX10 0 (by omega) (v := .ref (ad 83)) e_tt rfl 4 (by decide) m39 rfl rfl dX10_read_1 ?_
  refine G_aload_n hC 0 0 rfl rfl dX10_read_4 ?_
  refine G_get hC inX10 0 (by omega) (v := .ref (ad 1)) e_tt rfl 0 (by decide) m10 rfl rfl dX10_read_5 ?_
  obtain ⟨q8, h8, h⟩ := bnd h
  refine G_cVi (st := []) hC _ 83 (by omega) (c_X6_readInto  l (by omega) e_text e_reader e_tbytes e_rnumarr H_now H_draft h8) (cwV 1 hC.hts gX10_read_X6_readInto rfl rfl rfl (by decide +kernel) ⟨Nat.le_of_ble_eq_true rfl, Nat.le_of_ble_eq_true rfl⟩) e_reader rfl rfl (Nat.le_of_ble_eq_true rfl) (Nat.zero_le _) (Nat.zero_le _) rfl dX10_read_8 (fun r8 en2 hw => ?_)
  obtain ⟨rfl, e_reader, e_rnumarr, H_now, H_draft, fr⟩ := hw
  have e_tt := (fr 0 (by omega) (by omega) (by omega) (by omega)).trans e_tt
  have e_past := (fr 12 (by omega) (by omega) (by omega) (by omega)).trans e_past
  have e_text := (fr 81 (by omega) (by omega) (by omega) (by omega)).trans e_text
  have e_tbytes := (fr 82 (by omega) (by omega) (by omega) (by omega)).trans e_tbytes
  have hfr : ∀ j, (j < 12 ∨ 13 ≤ j) → (j < 83 ∨ 84 ≤ j) → (j < 95 ∨ 96 ≤ j) → (j < 1 ∨ 12 ≤ j) → (j < 84 ∨ 95 ≤ j) → en2 j = en j := fun j o0 o1 o2 o3 o4 => (fr j (by omega) (by omega) (by omega) (by omega)).trans (hfr j o0 o1 o2 o3 o4)
  refine G_istore_n hC 1 [(1, .int q8.1), (0, .ref (ad 0))] rfl (by decide) rfl dX10_read_11 ?_
  refine G_iload_n hC 1 0 rfl rfl dX10_read_12 ?_
  refine G_if_lt hC 23 dX10_read_13 (by decide) (fun c13 => ?_) (fun c13 => ?_)
  · have h := ifp c13 h
    refine G_iload_n hC 1 0 rfl rfl dX10_read_23 ?_
    have h := Option.some.inj h
    subst h
    exact Kr _ _ _ _ (nar_i _) ⟨rfl, e_past, e_reader, e_rnumarr, H_now, H_draft, hfr⟩ dX10_read_24
  have h := ifn c13 h
  refine G_aload_n hC 0 1 rfl rfl dX10_read_16 ?_
  refine G_get hC inX10 0 (by omega) (v := .ref (ad 12)) e_tt rfl 1 (by decide) m19 rfl rfl dX10_read_17 ?_
  obtain ⟨q20, h20, h⟩ := bnd h
  refine G_cVv (st := []) hC _ 12 (by omega) (c_X5_forget  l (by omega) e_past h20) (cwV 0 hC.hts gX10_read_X5_forget rfl rfl rfl (by decide +kernel) ⟨Nat.le_of_ble_eq_true rfl, Nat.le_of_ble_eq_true rfl⟩) e_past rfl rfl (Nat.le_of_ble_eq_true rfl) (Nat.zero_le _) (Nat.zero_le _) rfl dX10_read_20 (fun en3 hw => ?_)
  obtain ⟨e_past, fr⟩ := hw
  have e_tt := (fr 0 (by omega)).trans e_tt
  have e_text := (fr 81 (by omega)).trans e_text
  have e_reader := (fr 83 (by omega)).trans e_reader
  have e_tbytes := (fr 82 (by omega)).trans e_tbytes
  have e_rnumarr := (fr 95 (by omega)).trans e_rnumarr
  have H_now := H_now.fr (fun j h1 h2 => fr j (by omega))
  have H_draft := H_draft.fr (fun j h1 h2 => fr j (by omega))
  have hfr : ∀ j, (j < 12 ∨ 13 ≤ j) → (j < 83 ∨ 84 ≤ j) → (j < 95 ∨ 96 ≤ j) → (j < 1 ∨ 12 ≤ j) → (j < 84 ∨ 95 ≤ j) → en3 j = en j := fun j o0 o1 o2 o3 o4 => (fr j (by omega)).trans (hfr j o0 o1 o2 o3 o4)
  refine G_iload_n hC 1 0 rfl rfl dX10_read_23 ?_
  have h := Option.some.inj h
  subst h
  exact Kr _ _ _ _ (nar_i _) ⟨rfl, e_past, e_reader, e_rnumarr, H_now, H_draft, hfr⟩ dX10_read_24
