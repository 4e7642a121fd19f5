def f_X10_part (fab : Int64) (fbe : Int64) (bads : Int32) (noes : Int32) (fulls : Int32) (x1 : Int32) : Option (Int64 × Int32 × Int32 × Int32) := Option.bind (f_X10_within x1 (0 : Int32) (1 : Int32)) (fun q3 => if q3 = 0 then (Option.bind (f_X10_counted bads noes fulls (-2 : Int32)) (fun q12 => some (q12.1.toInt64, q12.2.1, q12.2.2.1, q12.2.2.2))) else (if x1 = 0 then (some (fab, bads, noes, fulls)) else (some (fbe, bads, noes, fulls))))
set_option maxHeartbeats 4000000 in
set_option maxRecDepth 100000 in
theorem c_X10_part {D : va_G} {cs : Nat → ClassId} {sa : Nat → Nat} {n : Nat} {ad : Nat → Nat} {A : Nat → Prop} (l : Launch) {en : Nat → va_E}  {keptImages : Int32} {fab : Int64} {fbe : Int64} {bads : Int32} {noes : Int32} {fulls : Int32} {x1 : Int32}  {q : Int64 × Int32 × Int32 × Int32} (hn : 110 ≤ n) (e_tt : en 0 = .inr (7, [.ref (ad 1), .ref (ad 12), .ref (ad 58), .ref (ad 81), .ref (ad 83), .ref (ad 96), .ref (ad 98), .int keptImages, .long fab, .long fbe, .int bads, .int noes, .int fulls])) (h : f_X10_part fab fbe bads noes fulls x1 = some q) : Met l yX10_part wsX10_part { frames := 1, cells := 0, slots := 0, locals := 22 } (va_Pc [.ref (ad 0), .int x1] (Wd D cs sa n ad A en)) (va_Ql (fun r u => q.1 = r ∧ u 0 = .inr (7, [.ref (ad 1), .ref (ad 12), .ref (ad 58), .ref (ad 81), .ref (ad 83), .ref (ad 96), .ref (ad 98), .int keptImages, .long fab, .long fbe, .int q.2.1, .int q.2.2.1, .int q.2.2.2]) ∧ (∀ j, (j < 0 ∨ 1 ≤ j) → u j = en j)) (Wd D cs sa n ad A) A) 0 0 A := by
  refine G_startL cX10_part 2 [(0, .ref (ad 0)), (1, .int x1)] (by decide) rfl (Nat.le_of_ble_eq_true rfl) rfl ?_
  intro p e s m args below meth c Q hC hnm Kr
  have inX10 : ∀ w ∈ u_ws RX10 TX10 13, w ∈ wsX10_part := by decide +kernel
  have m57 : Cond.fieldLink RX10 57 "TongueTip" "above" "J" ∈ wsX10_part := by decide +kernel
  have m61 : Cond.fieldLink RX10 61 "TongueTip" "below" "J" ∈ wsX10_part := by decide +kernel
  unfold f_X10_part at h
  have hfr : ∀ j, (j < 0 ∨ 1 ≤ j) → en j = en j := fun _ _ => rfl
  refine G_iload_n hC 1 1 rfl rfl dX10_part_0 ?_
  refine G_iconst hC (v := 0) (by decide) dX10_part_1 ?_
  refine G_iconst hC (v := 1) (by decide) dX10_part_2 ?_
  obtain ⟨q3, h3, h⟩ := bnd h
  refine G_cSi (st := []) hC _ (c_X10_within  l  h3) (va_cwS 3 hC.hts gX10_part_X10_within rfl rfl rfl (by decide +kernel) ⟨Nat.le_of_ble_eq_true rfl, Nat.le_of_ble_eq_true rfl⟩) rfl (Nat.le_of_ble_eq_true rfl) (Nat.zero_le _) (Nat.zero_le _) rfl dX10_part_3 (fun r3 enx hw => ?_)
  obtain ⟨rfl, rfl⟩ := hw
  refine G_if_ne hC 17 dX10_part_6 (by decide) (fun c6 => ?_) (fun c6 => ?_)
  · have h := ifn c6 h
    refine G_iload_n hC 1 1 rfl rfl dX10_part_17 ?_
    refine G_if_ne hC 28 dX10_part_18 (by decide) (fun c18 => ?_) (fun c18 => ?_)
    · have h := ifn c18 h
      refine G_aload_n hC 0 0 rfl rfl dX10_part_28 ?_
      refine G_get hC inX10 0 (by omega) (v := .long fbe) e_tt rfl 9 (by decide) m61 rfl rfl dX10_part_29 ?_
      have h := Option.some.inj h
      subst h
      exact Kr _ _ _ _ ⟨rfl, e_tt, hfr⟩ dX10_part_32
    have h := ifp c18 h
    refine G_aload_n hC 0 0 rfl rfl dX10_part_21 ?_
    refine G_get hC inX10 0 (by omega) (v := .long fab) e_tt rfl 8 (by decide) m57 rfl rfl dX10_part_22 ?_
    refine G_goto hC 32 dX10_part_25 (by decide) ?_
    have h := Option.some.inj h
    subst h
    exact Kr _ _ _ _ ⟨rfl, e_tt, hfr⟩ dX10_part_32
  have h := ifp c6 h
  refine G_aload_n hC 0 0 rfl rfl dX10_part_9 ?_
  refine G_bipush hC (v := (-2)) (by decide) dX10_part_10 ?_
  obtain ⟨q12, h12, h⟩ := bnd h
  refine G_cVi (st := []) hC _ 0 (by omega) (c_X10_counted  l (by omega) e_tt h12) (cwV 1 hC.hts gX10_part_X10_counted rfl rfl rfl (by decide +kernel) ⟨Nat.le_of_ble_eq_true rfl, Nat.le_of_ble_eq_true rfl⟩) e_tt rfl rfl (Nat.le_of_ble_eq_true rfl) (Nat.zero_le _) (Nat.zero_le _) rfl dX10_part_12 (fun r12 en2 hw => ?_)
  obtain ⟨rfl, e_tt, fr⟩ := hw
  have hfr : ∀ j, (j < 0 ∨ 1 ≤ j) → en2 j = en j := fun j o0 => (fr j (by omega)).trans (hfr j o0)
  refine G_i2l hC dX10_part_15 ?_
  have h := Option.some.inj h
  subst h
  exact Kr _ _ _ _ ⟨rfl, e_tt, hfr⟩ dX10_part_16
def f_X10_image (keptImages : Int32) (bads : Int32) (noes : Int32) (fulls : Int32) (now : HallV) (imgs : Nat → HallV) (x1 : Int32) : Option (Int32 × Int32 × Int32 × Int32 × Int32 × (Nat → HallV)) := Option.bind (f_X10_imageAt x1) (fun q2 => Option.elim q2 (Option.bind (f_X10_counted bads noes fulls (-2 : Int32)) (fun q13 => some (q13.1, keptImages, q13.2.1, q13.2.2.1, q13.2.2.2, imgs))) (fun z2 => if z2 < 2 then (Option.bind (f_X1_become (imgs z2) now) (fun q22 => some ((1 : Int32), keptImages ||| ((1 : Int32) <<< (x1 &&& (31 : Int32))), bads, noes, fulls, va_up imgs z2 q22))) else none))
set_option maxHeartbeats 4000000 in
set_option maxRecDepth 100000 in
theorem c_X10_image {D : va_G} {cs : Nat → ClassId} {sa : Nat → Nat} {n : Nat} {ad : Nat → Nat} {A : Nat → Prop} (l : Launch) {en : Nat → va_E}  {keptImages : Int32} {fab : Int64} {fbe : Int64} {bads : Int32} {noes : Int32} {fulls : Int32} {now : HallV} {imgs : Nat → HallV} {x1 : Int32}  {q : Int32 × Int32 × Int32 × Int32 × Int32 × (Nat → HallV)} (hn : 110 ≤ n) (e_tt : en 0 = .inr (7, [.ref (ad 1), .ref (ad 12), .ref (ad 58), .ref (ad 81), .ref (ad 83), .ref (ad 96), .ref (ad 98), .int keptImages, .long fab, .long fbe, .int bads, .int noes, .int fulls])) (e_imgarr : en 58 = .inl (cs 4, 2, .inr (.inr (.inr (.inr (imgF ad)))))) (H_now : Hall cs ad en 1 now) (F_imgs : (∀ i, i < 2 → Hall cs ad en (59 + 11 * i) (imgs i))) (h : f_X10_image keptImages bads noes fulls now imgs x1 = some q) : Met l yX10_image wsX10_image { frames := 2, cells := 0, slots := 0, locals := 43 } (va_Pc [.ref (ad 0), .int x1] (Wd D cs sa n ad A en)) (va_Qi (fun r u => q.1 = r ∧ u 0 = .inr (7, [.ref (ad 1), .ref (ad 12), .ref (ad 58), .ref (ad 81), .ref (ad 83), .ref (ad 96), .ref (ad 98), .int q.2.1, .long fab, .long fbe, .int q.2.2.1, .int q.2.2.2.1, .int q.2.2.2.2.1]) ∧ (∀ i, i < 2 → Hall cs ad u (59 + 11 * i) (q.2.2.2.2.2 i)) ∧ (∀ j, (j < 0 ∨ 1 ≤ j) → (j < 59 ∨ 81 ≤ j) → u j = en j)) (Wd D cs sa n ad A) A) 0 0 A := by
  refine G_startI cX10_image 3 [(0, .ref (ad 0)), (1, .int x1)] (by decide) rfl (Nat.le_of_ble_eq_true rfl) rfl ?_
  intro p e s m args below meth c Q hC hnm Kr
  have inX10 : ∀ w ∈ u_ws RX10 TX10 13, w ∈ wsX10_image := by decide +kernel
  have m10 : Cond.fieldLink RX10 10 "TongueTip" "now" "LTongueTip$Hall;" ∈ wsX10_image := by decide +kernel
  have m231 : Cond.fieldLink RX10 231 "TongueTip" "keptImages" "I" ∈ wsX10_image := by decide +kernel
  unfold f_X10_image at h
  have hfr : ∀ j, (j < 0 ∨ 1 ≤ j) → (j < 59 ∨ 81 ≤ j) → en j = en j := fun _ _ _ => rfl
  refine G_aload_n hC 0 0 rfl rfl dX10_image_0 ?_
  refine G_iload_n hC 1 1 rfl rfl dX10_image_1 ?_
  obtain ⟨q2, h2, h⟩ := bnd h
  refine G_cVq (st := []) hC _ 0 (by omega) (c_X10_imageAt  l (by omega) e_tt e_imgarr h2) (cwV 1 hC.hts gX10_image_X10_imageAt rfl rfl rfl (by decide +kernel) ⟨Nat.le_of_ble_eq_true rfl, Nat.le_of_ble_eq_true rfl⟩) e_tt rfl rfl (Nat.le_of_ble_eq_true rfl) (Nat.zero_le _) (Nat.zero_le _) rfl dX10_image_2 (fun r2 enx hw => ?_)
  obtain ⟨rfl, rfl⟩ := hw
  cases q2 with
  | none =>
    have h := oel_n h
    refine G_eq (st' := [.null]) rfl rfl (fun _ _ => rfl) ?_
    refine G_astore_nN hC 2 [(2, .null), (0, .ref (ad 0)), (1, .int x1)] rfl (by decide) rfl dX10_image_5 ?_
    refine G_aload_nN hC 2 0 rfl rfl dX10_image_6 ?_
    refine G_ifnonnullN hC dX10_image_7 ?_
    refine G_aload_n hC 0 1 rfl rfl dX10_image_10 ?_
    refine G_bipush hC (v := (-2)) (by decide) dX10_image_11 ?_
    obtain ⟨q13, h13, h⟩ := bnd h
    refine G_cVi (st := []) hC _ 0 (by omega) (c_X10_counted  l (by omega) e_tt h13) (cwV 1 hC.hts gX10_image_X10_counted rfl rfl rfl (by decide +kernel) ⟨Nat.le_of_ble_eq_true rfl, Nat.le_of_ble_eq_true rfl⟩) e_tt rfl rfl (Nat.le_of_ble_eq_true rfl) (Nat.zero_le _) (Nat.zero_le _) rfl dX10_image_13 (fun r13 en2 hw => ?_)
    obtain ⟨rfl, e_tt, fr⟩ := hw
    have e_imgarr := (fr 58 (by omega)).trans e_imgarr
    have H_now := H_now.fr (fun j h1 h2 => fr j (by omega))
    have F_imgs := fun i (hi : i < 2) => (F_imgs i hi).fr (fun j h1 h2 => fr j (by omega))
    have hfr : ∀ j, (j < 0 ∨ 1 ≤ j) → (j < 59 ∨ 81 ≤ j) → en2 j = en j := fun j o0 o1 => (fr j (by omega)).trans (hfr j o0 o1)
    have h := Option.some.inj h
    subst h
    exact Kr _ _ _ _ (nar_i _) ⟨rfl, e_tt, F_imgs, hfr⟩ dX10_image_16
  | some z2 =>
    have h := oel_s h
    obtain ⟨g_z2, h⟩ := asr h
    refine G_eq (st' := [.ref (ad (59 + 11 * z2))]) rfl rfl (fun _ _ => rfl) ?_
    refine G_astore_n hC 2 [(2, .ref (ad (59 + 11 * z2))), (0, .ref (ad 0)), (1, .int x1)] rfl (by decide) rfl dX10_image_5 ?_
    refine G_aload_n hC 2 0 rfl rfl dX10_image_6 ?_
    refine G_ifnonnull hC 17 dX10_image_7 (by decide) ?_
    refine G_aload_n hC 2 0 rfl rfl dX10_image_17 ?_
    refine G_aload_n hC 0 1 rfl rfl dX10_image_18 ?_
    refine G_get hC inX10 0 (by omega) (v := .ref (ad 1)) e_tt rfl 0 (by decide) m10 rfl rfl dX10_image_19 ?_
    obtain ⟨q22, h22, h⟩ := bnd h
    refine G_cVv (st := []) hC _ (59 + 11 * z2) (by omega) (c_X1_become (kk := 59 + 11 * z2) (kk2 := 1) l (by omega) (by omega) (by omega) (F_imgs z2 g_z2) H_now h22) (cwV 1 hC.hts gX10_image_X1_become rfl rfl rfl (by decide +kernel) ⟨Nat.le_of_ble_eq_true rfl, Nat.le_of_ble_eq_true rfl⟩) (F_imgs z2 g_z2 0 (by decide)) rfl rfl (Nat.le_of_ble_eq_true rfl) (Nat.zero_le _) (Nat.zero_le _) rfl dX10_image_22 (fun en3 hw => ?_)
    obtain ⟨hz, fr⟩ := hw
    have F_imgs : ∀ i, i < 2 → Hall cs ad en3 (59 + 11 * i) ((va_up imgs z2 q22) i) := fam_up F_imgs hz fr
    have e_tt := (fr 0 (by omega)).trans e_tt
    have e_imgarr := (fr 58 (by omega)).trans e_imgarr
    have H_now := H_now.fr (fun j h1 h2 => fr j (by omega))
    have hfr : ∀ j, (j < 0 ∨ 1 ≤ j) → (j < 59 ∨ 81 ≤ j) → en3 j = en j := fun j o0 o1 => (fr j (by omega)).trans (hfr j o0 o1)
    refine G_aload_n hC 0 1 rfl rfl dX10_image_25 ?_
    refine G_dup hC rfl dX10_image_26 ?_
    refine G_get hC inX10 0 (by omega) (v := .int keptImages) e_tt rfl 7 (by decide) m231 rfl rfl dX10_image_27 ?_
    refine G_iconst hC (v := 1) (by decide) dX10_image_30 ?_
    refine G_iload_n hC 1 2 rfl rfl dX10_image_31 ?_
    refine G_ishl hC dX10_image_32 ?_
    refine G_ior hC dX10_image_33 ?_
    refine G_put hC inX10 tyX10 tyX10_ok nmX10 0 (by omega) e_tt rfl 7 (by decide) m231 rfl rfl (ty := .int) rfl rfl rfl (Nat.le_of_ble_eq_true rfl) dX10_image_34 (fun en4 e_tt fr => ?_)
    have e_tt : en4 0 = .inr (7, [.ref (ad 1), .ref (ad 12), .ref (ad 58), .ref (ad 81), .ref (ad 83), .ref (ad 96), .ref (ad 98), .int (keptImages ||| ((1 : Int32) <<< (x1 &&& (31 : Int32)))), .long fab, .long fbe, .int bads, .int noes, .int fulls]) := e_tt
    have e_imgarr := (fr 58 (by omega)).trans e_imgarr
    have H_now := H_now.fr (fun j h1 h2 => fr j (by omega))
    have F_imgs := fun i (hi : i < 2) => (F_imgs i hi).fr (fun j h1 h2 => fr j (by omega))
    have hfr : ∀ j, (j < 0 ∨ 1 ≤ j) → (j < 59 ∨ 81 ≤ j) → en4 j = en j := fun j o0 o1 => (fr j (by omega)).trans (hfr j o0 o1)
    refine G_iconst hC (v := 1) (by decide) dX10_image_37 ?_
    have h := Option.some.inj h
    subst h
    exact Kr _ _ _ _ (nar_i _) ⟨rfl, e_tt, F_imgs, hfr⟩ dX10_image_38
def f_X10_from (keptImages : Int32) (bads : Int32) (noes : Int32) (fulls : Int32) (now : HallV) (kp : Int32) (imgs : Nat → HallV) (x1 : Int32) : Option (Int32 × Int32 × Int32 × Int32 × HallV × Int32) := Option.bind (f_X10_imageAt x1) (fun q2 => Option.elim q2 (Option.bind (f_X10_counted bads noes fulls (-2 : Int32)) (fun q13 => some (q13.1, q13.2.1, q13.2.2.1, q13.2.2.2, now, kp))) (fun z2 => if z2 < 2 then (Option.bind (f_X10_isIn keptImages x1) (fun q22 => if q22 = 0 then (Option.bind (f_X10_counted bads noes fulls (-3 : Int32)) (fun q31 => some (q31.1, q31.2.1, q31.2.2.1, q31.2.2.2, now, kp))) else (Option.bind (f_X1_become now (imgs z2)) (fun q40 => Option.bind (f_X5_forget kp) (fun q47 => some ((1 : Int32), bads, noes, fulls, q40, q47)))))) else none))
set_option maxHeartbeats 4000000 in
set_option maxRecDepth 100000 in
theorem c_X10_from {D : va_G} {cs : Nat → ClassId} {sa : Nat → Nat} {n : Nat} {ad : Nat → Nat} {A : Nat → Prop} (l : Launch) {en : Nat → va_E}  {keptImages : Int32} {fab : Int64} {fbe : Int64} {bads : Int32} {noes : Int32} {fulls : Int32} {now : HallV} {bl : Int32} {kp : Int32} {imgs : Nat → HallV} {x1 : Int32}  {q : Int32 × Int32 × Int32 × Int32 × HallV × Int32} (hn : 110 ≤ n) (e_tt : en 0 = .inr (7, [.ref (ad 1), .ref (ad 12), .ref (ad 58), .ref (ad 81), .ref (ad 83), .ref (ad 96), .ref (ad 98), .int keptImages, .long fab, .long fbe, .int bads, .int noes, .int fulls])) (e_past : en 12 = .inr (2, [.ref (ad 13), .int bl, .int kp])) (e_imgarr : en 58 = .inl (cs 4, 2, .inr (.inr (.inr (.inr (imgF ad)))))) (H_now : Hall cs ad en 1 now) (F_imgs : (∀ i, i < 2 → Hall cs ad en (59 + 11 * i) (imgs i))) (h : f_X10_from keptImages bads noes fulls now kp imgs x1 = some q) : Met l yX10_from wsX10_from { frames := 2, cells := 0, slots := 0, locals := 43 } (va_Pc [.ref (ad 0), .int x1] (Wd D cs sa n ad A en)) (va_Qi (fun r u => q.1 = r ∧ u 0 = .inr (7, [.ref (ad 1), .ref (ad 12), .ref (ad 58), .ref (ad 81), .ref (ad 83), .ref (ad 96), .ref (ad 98), .int keptImages, .long fab, .long fbe, .int q.2.1, .int q.2.2.1, .int q.2.2.2.1]) ∧ u 12 = .inr (2, [.ref (ad 13), .int bl, .int q.2.2.2.2.2]) ∧ Hall cs ad u 1 q.2.2.2.2.1 ∧ (∀ j, (j < 0 ∨ 1 ≤ j) → (j < 12 ∨ 13 ≤ j) → (j < 1 ∨ 12 ≤ j) → u j = en j)) (Wd D cs sa n ad A) A) 0 0 A := by
  refine G_startI cX10_from 3 [(0, .ref (ad 0)), (1, .int x1)] (by decide) rfl (Nat.le_of_ble_eq_true rfl) rfl ?_
  intro p e s m args below meth c Q hC hnm Kr
  have inX10 : ∀ w ∈ u_ws RX10 TX10 13, w ∈ wsX10_from := by decide +kernel
  have m10 : Cond.fieldLink RX10 10 "TongueTip" "now" "LTongueTip$Hall;" ∈ wsX10_from := by decide +kernel
  have m19 : Cond.fieldLink RX10 19 "TongueTip" "past" "LTongueTip$Past;" ∈ wsX10_from := by decide +kernel
  have m231 : Cond.fieldLink RX10 231 "TongueTip" "keptImages" "I" ∈ wsX10_from := by decide +kernel
  unfold f_X10_from at h
  have hfr : ∀ j, (j < 0 ∨ 1 ≤ j) → (j < 12 ∨ 13 ≤ j) → (j < 1 ∨ 12 ≤ j) → en j = en j := fun _ _ _ _ => rfl
  refine G_aload_n hC 0 0 rfl rfl dX10_from_0 ?_
  refine G_iload_n hC 1 1 rfl rfl dX10_from_1 ?_
  obtain ⟨q2, h2, h⟩ := bnd h
  refine G_cVq (st := []) hC _ 0 (by omega) (c_X10_imageAt  l (by omega) e_tt e_imgarr h2) (cwV 1 hC.hts gX10_from_X10_imageAt rfl rfl rfl (by decide +kernel) ⟨Nat.le_of_ble_eq_true rfl, Nat.le_of_ble_eq_true rfl⟩) e_tt rfl rfl (Nat.le_of_ble_eq_true rfl) (Nat.zero_le _) (Nat.zero_le _) rfl dX10_from_2 (fun r2 enx hw => ?_)
  obtain ⟨rfl, rfl⟩ := hw
  cases q2 with
  | none =>
    have h := oel_n h
    refine G_eq (st' := [.null]) rfl rfl (fun _ _ => rfl) ?_
    refine G_astore_nN hC 2 [(2, .null), (0, .ref (ad 0)), (1, .int x1)] rfl (by decide) rfl dX10_from_5 ?_
    refine G_aload_nN hC 2 0 rfl rfl dX10_from_6 ?_
    refine G_ifnonnullN hC dX10_from_7 ?_
    refine G_aload_n hC 0 1 rfl rfl dX10_from_10 ?_
    refine G_bipush hC (v := (-2)) (by decide) dX10_from_11 ?_
    obtain ⟨q13, h13, h⟩ := bnd h
    refine G_cVi (st := []) hC _ 0 (by omega) (c_X10_counted  l (by omega) e_tt h13) (cwV 1 hC.hts gX10_from_X10_counted rfl rfl rfl (by decide +kernel) ⟨Nat.le_of_ble_eq_true rfl, Nat.le_of_ble_eq_true rfl⟩) e_tt rfl rfl (Nat.le_of_ble_eq_true rfl) (Nat.zero_le _) (Nat.zero_le _) rfl dX10_from_13 (fun r13 en2 hw => ?_)
    obtain ⟨rfl, e_tt, fr⟩ := hw
    have e_past := (fr 12 (by omega)).trans e_past
    have e_imgarr := (fr 58 (by omega)).trans e_imgarr
    have H_now := H_now.fr (fun j h1 h2 => fr j (by omega))
    have F_imgs := fun i (hi : i < 2) => (F_imgs i hi).fr (fun j h1 h2 => fr j (by omega))
    have hfr : ∀ j, (j < 0 ∨ 1 ≤ j) → (j < 12 ∨ 13 ≤ j) → (j < 1 ∨ 12 ≤ j) → en2 j = en j := fun j o0 o1 o2 => (fr j (by omega)).trans (hfr j o0 o1 o2)
    have h := Option.some.inj h
    subst h
    exact Kr _ _ _ _ (nar_i _) ⟨rfl, e_tt, e_past, H_now, hfr⟩ dX10_from_16
  | some z2 =>
    have h := oel_s h
    obtain ⟨g_z2, h⟩ := asr h
    refine G_eq (st' := [.ref (ad (59 + 11 * z2))]) rfl rfl (fun _ _ => rfl) ?_
    refine G_astore_n hC 2 [(2, .ref (ad (59 + 11 * z2))), (0, .ref (ad 0)), (1, .int x1)] rfl (by decide) rfl dX10_from_5 ?_
    refine G_aload_n hC 2 0 rfl rfl dX10_from_6 ?_
    refine G_ifnonnull hC 17 dX10_from_7 (by decide) ?_
    refine G_aload_n hC 0 1 rfl rfl dX10_from_17 ?_
    refine G_get hC inX10 0 (by omega) (v := .int keptImages) e_tt rfl 7 (by decide) m231 rfl rfl dX10_from_18 ?_
    refine G_iload_n hC 1 2 rfl rfl dX10_from_21 ?_
    obtain ⟨q22, h22, h⟩ := bnd h
    refine G_cSi (st := []) hC _ (c_X10_isIn  l  h22) (va_cwS 2 hC.hts gX10_from_X10_isIn rfl rfl rfl (by decide +kernel) ⟨Nat.le_of_ble_eq_true rfl, Nat.le_of_ble_eq_true rfl⟩) rfl (Nat.le_of_ble_eq_true rfl) (Nat.zero_le _) (Nat.zero_le _) rfl dX10_from_22 (fun r22 enx hw => ?_)
    obtain ⟨rfl, rfl⟩ := hw
    refine G_if_ne hC 35 dX10_from_25 (by decide) (fun c25 => ?_) (fun c25 => ?_)
    · have h := ifn c25 h
      refine G_aload_n hC 0 1 rfl rfl dX10_from_35 ?_
      refine G_get hC inX10 0 (by omega) (v := .ref (ad 1)) e_tt rfl 0 (by decide) m10 rfl rfl dX10_from_36 ?_
      refine G_aload_n hC 2 0 rfl rfl dX10_from_39 ?_
      obtain ⟨q40, h40, h⟩ := bnd h
      refine G_cVv (st := []) hC _ 1 (by omega) (c_X1_become (kk := 1) (kk2 := 59 + 11 * z2) l (by omega) (by omega) (by omega) H_now (F_imgs z2 g_z2) h40) (cwV 1 hC.hts gX10_from_X1_become rfl rfl rfl (by decide +kernel) ⟨Nat.le_of_ble_eq_true rfl, Nat.le_of_ble_eq_true rfl⟩) (H_now 0 (by decide)) rfl rfl (Nat.le_of_ble_eq_true rfl) (Nat.zero_le _) (Nat.zero_le _) rfl dX10_from_40 (fun en3 hw => ?_)
      obtain ⟨H_now, fr⟩ := hw
      have e_tt := (fr 0 (by omega)).trans e_tt
      have e_past := (fr 12 (by omega)).trans e_past
      have e_imgarr := (fr 58 (by omega)).trans e_imgarr
      have F_imgs := fun i (hi : i < 2) => (F_imgs i hi).fr (fun j h1 h2 => fr j (by omega))
      have hfr : ∀ j, (j < 0 ∨ 1 ≤ j) → (j < 12 ∨ 13 ≤ j) → (j < 1 ∨ 12 ≤ j) → en3 j = en j := fun j o0 o1 o2 => (fr j (by omega)).trans (hfr j o0 o1 o2)
      refine G_aload_n hC 0 1 rfl rfl dX10_from_43 ?_
      refine G_get hC inX10 0 (by omega) (v := .ref (ad 12)) e_tt rfl 1 (by decide) m19 rfl rfl dX10_from_44 ?_
      obtain ⟨q47, h47, h⟩ := bnd h
      refine G_cVv (st := []) hC _ 12 (by omega) (c_X5_forget  l (by omega) e_past h47) (cwV 0 hC.hts gX10_from_X5_forget rfl rfl rfl (by decide +kernel) ⟨Nat.le_of_ble_eq_true rfl, Nat.le_of_ble_eq_true rfl⟩) e_past rfl rfl (Nat.le_of_ble_eq_true rfl) (Nat.zero_le _) (Nat.zero_le _) rfl dX10_from_47 (fun en4 hw => ?_)
      obtain ⟨e_past, fr⟩ := hw
      have e_tt := (fr 0 (by omega)).trans e_tt
      have e_imgarr := (fr 58 (by omega)).trans e_imgarr
      have H_now := H_now.fr (fun j h1 h2 => fr j (by omega))
      have F_imgs := fun i (hi : i < 2) => (F_imgs i hi).fr (fun j h1 h2 => fr j (by omega))
      have hfr : ∀ j, (j < 0 ∨ 1 ≤ j) → (j < 12 ∨ 13 ≤ j) → (j < 1 ∨ 12 ≤ j) → en4 j = en j := fun j o0 o1 o2 => (fr j (by omega)).trans (hfr j o0 o1 o2)
      refine G_iconst hC (v := 1) (by decide) dX10_from_50 ?_
      have h := Option.some.inj h
      subst h
      exact Kr _ _ _ _ (nar_i _) ⟨rfl, e_tt, e_past, H_now, hfr⟩ dX10_from_51
    have h := ifp c25 h
    refine G_aload_n hC 0 1 rfl rfl dX10_from_28 ?_
    refine G_bipush hC (v := (-3)) (by decide) dX10_from_29 ?_
    obtain ⟨q31, h31, h⟩ := bnd h
    refine G_cVi (st := []) hC _ 0 (by omega) (c_X10_counted  l (by omega) e_tt h31) (cwV 1 hC.hts gX10_from_X10_counted rfl rfl rfl (by decide +kernel) ⟨Nat.le_of_ble_eq_true rfl, Nat.le_of_ble_eq_true rfl⟩) e_tt rfl rfl (Nat.le_of_ble_eq_true rfl) (Nat.zero_le _) (Nat.zero_le _) rfl dX10_from_31 (fun r31 en5 hw => ?_)
    obtain ⟨rfl, e_tt, fr⟩ := hw
    have e_past := (fr 12 (by omega)).trans e_past
    have e_imgarr := (fr 58 (by omega)).trans e_imgarr
    have H_now := H_now.fr (fun j h1 h2 => fr j (by omega))
    have F_imgs := fun i (hi : i < 2) => (F_imgs i hi).fr (fun j h1 h2 => fr j (by omega))
    have hfr : ∀ j, (j < 0 ∨ 1 ≤ j) → (j < 12 ∨ 13 ≤ j) → (j < 1 ∨ 12 ≤ j) → en5 j = en j := fun j o0 o1 o2 => (fr j (by omega)).trans (hfr j o0 o1 o2)
    have h := Option.some.inj h
    subst h
    exact Kr _ _ _ _ (nar_i _) ⟨rfl, e_tt, e_past, H_now, hfr⟩ dX10_from_34
def f_X10_status (bads : Int32) (noes : Int32) (fulls : Int32) (x1 : Int32) : Option (Int32 × Int32 × Int32 × Int32) := if x1 = (0 : Int32) then (some (bads, bads, noes, fulls)) else if x1 = (1 : Int32) then (some (noes, bads, noes, fulls)) else if x1 = (2 : Int32) then (some (fulls, bads, noes, fulls)) else (Option.bind (f_X10_counted bads noes fulls (-2 : Int32)) (fun q46 => some ((-1 : Int32), q46.2.1, q46.2.2.1, q46.2.2.2)))
set_option maxHeartbeats 4000000 in
set_option maxRecDepth 100000 in
theorem c_X10_status {D : va_G} {cs : Nat → ClassId} {sa : Nat → Nat} {n : Nat} {ad : Nat → Nat} {A : Nat → Prop} (l : Launch) {en : Nat → va_E}  {keptImages : Int32} {fab : Int64} {fbe : Int64} {bads : Int32} {noes : Int32} {fulls : Int32} {x1 : Int32}  {q : Int32 × Int32 × Int32 × Int32} (hn : 110 ≤ n) (e_tt : en 0 = .inr (7, [.ref (ad 1), .ref (ad 12), .ref (ad 58), .ref (ad 81), .ref (ad 83), .ref (ad 96), .ref (ad 98), .int keptImages, .long fab, .long fbe, .int bads, .int noes, .int fulls])) (h : f_X10_status bads noes fulls x1 = some q) : Met l yX10_status wsX10_status { frames := 1, cells := 0, slots := 0, locals := 21 } (va_Pc [.ref (ad 0), .int x1] (Wd D cs sa n ad A en)) (va_Qi (fun r u => q.1 = r ∧ u 0 = .inr (7, [.ref (ad 1), .ref (ad 12), .ref (ad 58), .ref (ad 81), .ref (ad 83), .ref (ad 96), .ref (ad 98), .int keptImages, .long fab, .long fbe, .int q.2.1, .int q.2.2.1, .int q.2.2.2]) ∧ (∀ j, (j < 0 ∨ 1 ≤ j) → u j = en j)) (Wd D cs sa n ad A) A) 0 0 A := by
  refine G_startI cX10_status 2 [(0, .ref (ad 0)), (1, .int x1)] (by decide) rfl (Nat.le_of_ble_eq_true rfl) rfl ?_
  intro p e s m args below meth c Q hC hnm Kr
  have inX10 : ∀ w ∈ u_ws RX10 TX10 13, w ∈ wsX10_status := by decide +kernel
  have m234 : Cond.fieldLink RX10 234 "TongueTip" "bads" "I" ∈ wsX10_status := by decide +kernel
  have m237 : Cond.fieldLink RX10 237 "TongueTip" "noes" "I" ∈ wsX10_status := by decide +kernel
  have m240 : Cond.fieldLink RX10 240 "TongueTip" "fulls" "I" ∈ wsX10_status := by decide +kernel
  unfold f_X10_status at h
  have hfr : ∀ j, (j < 0 ∨ 1 ≤ j) → en j = en j := fun _ _ => rfl
  refine G_iload_n hC 1 1 rfl rfl dX10_status_0 ?_
  by_cases c1_0 : x1 = (0 : Int32)
  · have h := ifp c1_0 h
    refine G_tabIn hC 28 dX10_status_1 (by rw [c1_0]; decide) (by rw [c1_0]; decide) (off := 27) (by rw [c1_0]; decide) (by decide) ?_
    refine G_aload_n hC 0 0 rfl rfl dX10_status_28 ?_
    refine G_get hC inX10 0 (by omega) (v := .int bads) e_tt rfl 10 (by decide) m234 rfl rfl dX10_status_29 ?_
    have h := Option.some.inj h
    subst h
    exact Kr _ _ _ _ (nar_i _) ⟨rfl, e_tt, hfr⟩ dX10_status_32
  have h := ifn c1_0 h
  by_cases c1_1 : x1 = (1 : Int32)
  · have h := ifp c1_1 h
    refine G_tabIn hC 33 dX10_status_1 (by rw [c1_1]; decide) (by rw [c1_1]; decide) (off := 32) (by rw [c1_1]; decide) (by decide) ?_
    refine G_aload_n hC 0 0 rfl rfl dX10_status_33 ?_
    refine G_get hC inX10 0 (by omega) (v := .int noes) e_tt rfl 11 (by decide) m237 rfl rfl dX10_status_34 ?_
    have h := Option.some.inj h
    subst h
    exact Kr _ _ _ _ (nar_i _) ⟨rfl, e_tt, hfr⟩ dX10_status_37
  have h := ifn c1_1 h
  by_cases c1_2 : x1 = (2 : Int32)
  · have h := ifp c1_2 h
    refine G_tabIn hC 38 dX10_status_1 (by rw [c1_2]; decide) (by rw [c1_2]; decide) (off := 37) (by rw [c1_2]; decide) (by decide) ?_
    refine G_aload_n hC 0 0 rfl rfl dX10_status_38 ?_
    refine G_get hC inX10 0 (by omega) (v := .int fulls) e_tt rfl 12 (by decide) m240 rfl rfl dX10_status_39 ?_
    have h := Option.some.inj h
    subst h
    exact Kr _ _ _ _ (nar_i _) ⟨rfl, e_tt, hfr⟩ dX10_status_42
  have h := ifn c1_2 h
  refine G_tabOut hC 43 dX10_status_1 (sw_out 0 2 (by decide) (fun i h0 h1 => by
    rcases (show i = 0 ∨ i = 1 ∨ i = 2 by omega) with rfl | rfl | rfl
    · exact c1_0
    · exact c1_1
    · exact c1_2)) (by decide) ?_
  refine G_aload_n hC 0 0 rfl rfl dX10_status_43 ?_
  refine G_bipush hC (v := (-2)) (by decide) dX10_status_44 ?_
  obtain ⟨q46, h46, h⟩ := bnd h
  refine G_cVi (st := []) hC _ 0 (by omega) (c_X10_counted  l (by omega) e_tt h46) (cwV 1 hC.hts gX10_status_X10_counted rfl rfl rfl (by decide +kernel) ⟨Nat.le_of_ble_eq_true rfl, Nat.le_of_ble_eq_true rfl⟩) e_tt rfl rfl (Nat.le_of_ble_eq_true rfl) (Nat.zero_le _) (Nat.zero_le _) rfl dX10_status_46 (fun r46 en2 hw => ?_)
  obtain ⟨rfl, e_tt, fr⟩ := hw
  have hfr : ∀ j, (j < 0 ∨ 1 ≤ j) → en2 j = en j := fun j o0 => (fr j (by omega)).trans (hfr j o0)
  refine G_pop hC rfl dX10_status_49 ?_
  refine G_iconst hC (v := (-1)) (by decide) dX10_status_50 ?_
  have h := Option.some.inj h
  subst h
  exact Kr _ _ _ _ (nar_i _) ⟨rfl, e_tt, hfr⟩ dX10_status_51
def f_X10_count (bads : Int32) (noes : Int32) (fulls : Int32) (now : HallV) (kp : Int32) (tlen : Int32) (x1 : Int32) : Option (Int32 × Int32 × Int32 × Int32) := Option.bind (f_X10_within x1 (0 : Int32) (5 : Int32)) (fun q3 => if q3 = 0 then (Option.bind (f_X10_counted bads noes fulls (-2 : Int32)) (fun q20 => some (q20.1, q20.2.1, q20.2.2.1, q20.2.2.2))) else (Option.bind (f_X10_tally now kp tlen x1) (fun q11 => some (q11, bads, noes, fulls))))
set_option maxHeartbeats 4000000 in
set_option maxRecDepth 100000 in
theorem c_X10_count {D : va_G} {cs : Nat → ClassId} {sa : Nat → Nat} {n : Nat} {ad : Nat → Nat} {A : Nat → Prop} (l : Launch) {en : Nat → va_E}  {keptImages : Int32} {fab : Int64} {fbe : Int64} {bads : Int32} {noes : Int32} {fulls : Int32} {now : HallV} {bl : Int32} {kp : Int32} {tlen : Int32} {x1 : Int32}  {q : Int32 × Int32 × Int32 × Int32} (hn : 110 ≤ n) (e_tt : en 0 = .inr (7, [.ref (ad 1), .ref (ad 12), .ref (ad 58), .ref (ad 81), .ref (ad 83), .ref (ad 96), .ref (ad 98), .int keptImages, .long fab, .long fbe, .int bads, .int noes, .int fulls])) (e_past : en 12 = .inr (2, [.ref (ad 13), .int bl, .int kp])) (e_text : en 81 = .inr (6, [.ref (ad 82), .int tlen])) (H_now : Hall cs ad en 1 now) (h : f_X10_count bads noes fulls now kp tlen x1 = some q) : Met l yX10_count wsX10_count { frames := 2, cells := 0, slots := 0, locals := 41 } (va_Pc [.ref (ad 0), .int x1] (Wd D cs sa n ad A en)) (va_Qi (fun r u => q.1 = r ∧ u 0 = .inr (7, [.ref (ad 1), .ref (ad 12), .ref (ad 58), .ref (ad 81), .ref (ad 83), .ref (ad 96), .ref (ad 98), .int keptImages, .long fab, .long fbe, .int q.2.1, .int q.2.2.1, .int q.2.2.2]) ∧ (∀ j, (j < 0 ∨ 1 ≤ j) → u j = en j)) (Wd D cs sa n ad A) A) 0 0 A := by
  refine G_startI cX10_count 2 [(0, .ref (ad 0)), (1, .int x1)] (by decide) rfl (Nat.le_of_ble_eq_true rfl) rfl ?_
  intro p e s m args below meth c Q hC hnm Kr
  unfold f_X10_count at h
  have hfr : ∀ j, (j < 0 ∨ 1 ≤ j) → en j = en j := fun _ _ => rfl
  refine G_iload_n hC 1 1 rfl rfl dX10_count_0 ?_
  refine G_iconst hC (v := 0) (by decide) dX10_count_1 ?_
  refine G_iconst hC (v := 5) (by decide) dX10_count_2 ?_
  obtain ⟨q3, h3, h⟩ := bnd h
  refine G_cSi (st := []) hC _ (c_X10_within  l  h3) (va_cwS 3 hC.hts gX10_count_X10_within rfl rfl rfl (by decide +kernel) ⟨Nat.le_of_ble_eq_true rfl, Nat.le_of_ble_eq_true rfl⟩) rfl (Nat.le_of_ble_eq_true rfl) (Nat.zero_le _) (Nat.zero_le _) rfl dX10_count_3 (fun r3 enx hw => ?_)
  obtain ⟨rfl, rfl⟩ := hw
  refine G_if_eq hC 17 dX10_count_6 (by decide) (fun c6 => ?_) (fun c6 => ?_)
  · have h := ifp c6 h
    refine G_aload_n hC 0 0 rfl rfl dX10_count_17 ?_
    refine G_bipush hC (v := (-2)) (by decide) dX10_count_18 ?_
    obtain ⟨q20, h20, h⟩ := bnd h
    refine G_cVi (st := []) hC _ 0 (by omega) (c_X10_counted  l (by omega) e_tt h20) (cwV 1 hC.hts gX10_count_X10_counted rfl rfl rfl (by decide +kernel) ⟨Nat.le_of_ble_eq_true rfl, Nat.le_of_ble_eq_true rfl⟩) e_tt rfl rfl (Nat.le_of_ble_eq_true rfl) (Nat.zero_le _) (Nat.zero_le _) rfl dX10_count_20 (fun r20 en2 hw => ?_)
    obtain ⟨rfl, e_tt, fr⟩ := hw
    have e_past := (fr 12 (by omega)).trans e_past
    have e_text := (fr 81 (by omega)).trans e_text
    have H_now := H_now.fr (fun j h1 h2 => fr j (by omega))
    have hfr : ∀ j, (j < 0 ∨ 1 ≤ j) → en2 j = en j := fun j o0 => (fr j (by omega)).trans (hfr j o0)
    have h := Option.some.inj h
    subst h
    exact Kr _ _ _ _ (nar_i _) ⟨rfl, e_tt, hfr⟩ dX10_count_23
  have h := ifn c6 h
  refine G_aload_n hC 0 0 rfl rfl dX10_count_9 ?_
  refine G_iload_n hC 1 1 rfl rfl dX10_count_10 ?_
  obtain ⟨q11, h11, h⟩ := bnd h
  refine G_cVi (st := []) hC _ 0 (by omega) (c_X10_tally  l (by omega) e_tt e_past e_text H_now h11) (cwV 1 hC.hts gX10_count_X10_tally rfl rfl rfl (by decide +kernel) ⟨Nat.le_of_ble_eq_true rfl, Nat.le_of_ble_eq_true rfl⟩) e_tt rfl rfl (Nat.le_of_ble_eq_true rfl) (Nat.zero_le _) (Nat.zero_le _) rfl dX10_count_11 (fun r11 enx hw => ?_)
  obtain ⟨rfl, rfl⟩ := hw
  refine G_goto hC 23 dX10_count_14 (by decide) ?_
  have h := Option.some.inj h
  subst h
  exact Kr _ _ _ _ (nar_i _) ⟨rfl, e_tt, hfr⟩ dX10_count_23
def f_X10_digest_L6 (fab : Int64) (fbe : Int64) (now : HallV) (kp : Int32) (tlen : Int32)  : Nat → Int64 → Int32 → Option (Int64)
  | 0, _, _ => none
  | fu + 1, x1, x3 => if (5 : Int32) < x3 then (Option.bind (f_X1_mixedInto now x1) (fun q35 => some (((31 : Int64) * (((31 : Int64) * q35) + fab)) + fbe))) else (Option.bind (f_X10_tally now kp tlen x3) (fun q18 => f_X10_digest_L6 fab fbe now kp tlen fu (((31 : Int64) * x1) + q18.toInt64) (x3 + (1 : Int32))))
def f_X10_digest (fab : Int64) (fbe : Int64) (now : HallV) (kp : Int32) (tlen : Int32)  : Option (Int64) := f_X10_digest_L6 fab fbe now kp tlen FU (701 : Int64) (0 : Int32)
set_option maxHeartbeats 4000000 in
set_option maxRecDepth 100000 in
theorem c_X10_digest {D : va_G} {cs : Nat → ClassId} {sa : Nat → Nat} {n : Nat} {ad : Nat → Nat} {A : Nat → Prop} (l : Launch) {en : Nat → va_E}  {keptImages : Int32} {fab : Int64} {fbe : Int64} {bads : Int32} {noes : Int32} {fulls : Int32} {now : HallV} {bl : Int32} {kp : Int32} {tlen : Int32}   {q : Int64} (hn : 110 ≤ n) (e_tt : en 0 = .inr (7, [.ref (ad 1), .ref (ad 12), .ref (ad 58), .ref (ad 81), .ref (ad 83), .ref (ad 96), .ref (ad 98), .int keptImages, .long fab, .long fbe, .int bads, .int noes, .int fulls])) (e_past : en 12 = .inr (2, [.ref (ad 13), .int bl, .int kp])) (e_text : en 81 = .inr (6, [.ref (ad 82), .int tlen])) (H_now : Hall cs ad en 1 now) (h : f_X10_digest fab fbe now kp tlen = some q) : Met l yX10_digest wsX10_digest { frames := 2, cells := 0, slots := 0, locals := 45 } (va_Pc [.ref (ad 0)] (Wd D cs sa n ad A en)) (va_Ql (fun r u => q = r ∧ en = u) (Wd D cs sa n ad A) A) 0 0 A := by
  refine G_startL cX10_digest 4 [(0, .ref (ad 0))] (by decide) rfl (Nat.le_of_ble_eq_true rfl) rfl ?_
  intro p e s m args below meth c Q hC hnm Kr
  have inX10 : ∀ w ∈ u_ws RX10 TX10 13, w ∈ wsX10_digest := by decide +kernel
  have k246 : Cond.constantLong RX10 246 (701) ∈ wsX10_digest := by decide +kernel
  have k248 : Cond.constantLong RX10 248 (31) ∈ wsX10_digest := by decide +kernel
  have m10 : Cond.fieldLink RX10 10 "TongueTip" "now" "LTongueTip$Hall;" ∈ wsX10_digest := by decide +kernel
  have m57 : Cond.fieldLink RX10 57 "TongueTip" "above" "J" ∈ wsX10_digest := by decide +kernel
  have m61 : Cond.fieldLink RX10 61 "TongueTip" "below" "J" ∈ wsX10_digest := by decide +kernel
  have hL6 : ∀ (fu6 : Nat), ∀ (x1 : Int64) (x3 : Int32), f_X10_digest_L6 fab fbe now kp tlen fu6 x1 x3 = some q → G p l e ({ frames := 2, cells := 0, slots := 0, locals := 45 } : Room) s m args below meth c D n ad A 4 0 0 Q en 6 [(0, .ref (ad 0)), (1, .long x1), (3, .int x3)] [] := by
    intro fu6
    induction fu6 with
    | zero =>
      intro x1 x3 h
      rw [f_X10_digest_L6] at h
      cases h
    | succ fu6 ih6 =>
      intro x1 x3 h
      rw [f_X10_digest_L6] at h
      refine G_iload_n hC 3 2 rfl rfl dX10_digest_6 ?_
      refine G_iconst hC (v := 5) (by decide) dX10_digest_7 ?_
      refine G_icmp_gt hC 30 dX10_digest_8 (by decide) (fun c8 => ?_) (fun c8 => ?_)
      · have h := ifp c8 h
        refine G_aload_n hC 0 0 rfl rfl dX10_digest_30 ?_
        refine G_get hC inX10 0 (by omega) (v := .ref (ad 1)) e_tt rfl 0 (by decide) m10 rfl rfl dX10_digest_31 ?_
        refine G_lload_n hC 1 1 rfl rfl dX10_digest_34 ?_
        obtain ⟨q35, h35, h⟩ := bnd h
        refine G_cVl (st := []) hC _ 1 (by omega) (c_X1_mixedInto (kk := 1) l (by omega) H_now h35) (cwV 1 hC.hts gX10_digest_X1_mixedInto rfl rfl rfl (by decide +kernel) ⟨Nat.le_of_ble_eq_true rfl, Nat.le_of_ble_eq_true rfl⟩) (H_now 0 (by decide)) rfl rfl (Nat.le_of_ble_eq_true rfl) (Nat.zero_le _) (Nat.zero_le _) rfl dX10_digest_35 (fun r35 enx hw => ?_)
        obtain ⟨rfl, rfl⟩ := hw
        refine G_lstore_n hC 1 [(1, .long q35), (0, .ref (ad 0)), (3, .int x3)] rfl (by decide) rfl dX10_digest_38 ?_
        refine G_ldc2 hC (v := (31)) k248 dX10_digest_39 ?_
        refine G_lload_n hC 1 0 rfl rfl dX10_digest_42 ?_
        refine G_lmul hC dX10_digest_43 ?_
        refine G_aload_n hC 0 1 rfl rfl dX10_digest_44 ?_
        refine G_get hC inX10 0 (by omega) (v := .long fab) e_tt rfl 8 (by decide) m57 rfl rfl dX10_digest_45 ?_
        refine G_ladd hC dX10_digest_48 ?_
        refine G_lstore_n hC 1 [(1, .long (((31 : Int64) * q35) + fab)), (0, .ref (ad 0)), (3, .int x3)] rfl (by decide) rfl dX10_digest_49 ?_
        refine G_ldc2 hC (v := (31)) k248 dX10_digest_50 ?_
        refine G_lload_n hC 1 0 rfl rfl dX10_digest_53 ?_
        refine G_lmul hC dX10_digest_54 ?_
        refine G_aload_n hC 0 1 rfl rfl dX10_digest_55 ?_
        refine G_get hC inX10 0 (by omega) (v := .long fbe) e_tt rfl 9 (by decide) m61 rfl rfl dX10_digest_56 ?_
        refine G_ladd hC dX10_digest_59 ?_
        have h := Option.some.inj h
        subst h
        exact Kr _ _ _ _ ⟨rfl, rfl⟩ dX10_digest_60
      have h := ifn c8 h
      refine G_ldc2 hC (v := (31)) k248 dX10_digest_11 ?_
      refine G_lload_n hC 1 1 rfl rfl dX10_digest_14 ?_
      refine G_lmul hC dX10_digest_15 ?_
      refine G_aload_n hC 0 0 rfl rfl dX10_digest_16 ?_
      refine G_iload_n hC 3 2 rfl rfl dX10_digest_17 ?_
      obtain ⟨q18, h18, h⟩ := bnd h
      refine G_cVi (st := [.long ((31 : Int64) * x1)]) hC _ 0 (by omega) (c_X10_tally  l (by omega) e_tt e_past e_text H_now h18) (cwV 1 hC.hts gX10_digest_X10_tally rfl rfl rfl (by decide +kernel) ⟨Nat.le_of_ble_eq_true rfl, Nat.le_of_ble_eq_true rfl⟩) e_tt rfl rfl (Nat.le_of_ble_eq_true rfl) (Nat.zero_le _) (Nat.zero_le _) rfl dX10_digest_18 (fun r18 enx hw => ?_)
      obtain ⟨rfl, rfl⟩ := hw
      refine G_i2l hC dX10_digest_21 ?_
      refine G_ladd hC dX10_digest_22 ?_
      refine G_lstore_n hC 1 [(1, .long (((31 : Int64) * x1) + q18.toInt64)), (0, .ref (ad 0)), (3, .int x3)] rfl (by decide) rfl dX10_digest_23 ?_
      refine G_iinc hC 3 2 [(3, .int (x3 + (1 : Int32))), (1, .long (((31 : Int64) * x1) + q18.toInt64)), (0, .ref (ad 0))] rfl rfl (by decide) rfl dX10_digest_24 ?_
      refine G_goto hC 6 dX10_digest_27 (by decide) ?_
      refine G_lv [2, 1, 0] rfl ?_
      exact ih6 _ _ h
  unfold f_X10_digest at h
  refine G_ldc2 hC (v := (701)) k246 dX10_digest_0 ?_
  refine G_lstore_n hC 1 [(1, .long (701 : Int64)), (0, .ref (ad 0))] rfl (by decide) rfl dX10_digest_3 ?_
  refine G_iconst hC (v := 0) (by decide) dX10_digest_4 ?_
  refine G_istore_n hC 3 [(3, .int (0 : Int32)), (1, .long (701 : Int64)), (0, .ref (ad 0))] rfl (by decide) rfl dX10_digest_5 ?_
  refine G_lv [2, 1, 0] rfl ?_
  exact hL6 FU _ _ h
