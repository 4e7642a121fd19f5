def f_X5_size (kp : Int32)  : Option (Int32) := some kp
set_option maxHeartbeats 4000000 in
set_option maxRecDepth 100000 in
theorem c_X5_size {D : va_G} {cs : Nat → ClassId} {sa : Nat → Nat} {n : Nat} {ad : Nat → Nat} {A : Nat → Prop} (l : Launch) {en : Nat → va_E}  {bl : Int32} {kp : Int32}   {q : Int32} (hn : 110 ≤ n) (e_past : en 12 = .inr (2, [.ref (ad 13), .int bl, .int kp])) (h : f_X5_size kp = some q) : Met l yX5_size wsX5_size { frames := 0, cells := 0, slots := 0, locals := 0 } (va_Pc [.ref (ad 12)] (Wd D cs sa n ad A en)) (va_Qi (fun r u => q = r ∧ en = u) (Wd D cs sa n ad A) A) 0 0 A := by
  refine G_startI cX5_size 1 [(0, .ref (ad 12))] (by decide) rfl (Nat.le_of_ble_eq_true rfl) rfl ?_
  intro p e s m args below meth c Q hC hnm Kr
  have inX5 : ∀ w ∈ u_ws RX5 TX5 3, w ∈ wsX5_size := by decide +kernel
  have m16 : Cond.fieldLink RX5 16 "TongueTip$Past" "kept" "I" ∈ wsX5_size := by decide +kernel
  unfold f_X5_size at h
  refine G_aload_n hC 0 0 rfl rfl dX5_size_0 ?_
  refine G_get hC inX5 12 (by omega) (v := .int kp) e_past rfl 2 (by decide) m16 rfl rfl dX5_size_1 ?_
  have h := Option.some.inj h
  subst h
  exact Kr _ _ _ _ (nar_i _) ⟨rfl, rfl⟩ dX5_size_4
def f_X5_forget (kp : Int32)  : Option (Int32) := some (0 : Int32)
set_option maxHeartbeats 4000000 in
set_option maxRecDepth 100000 in
theorem c_X5_forget {D : va_G} {cs : Nat → ClassId} {sa : Nat → Nat} {n : Nat} {ad : Nat → Nat} {A : Nat → Prop} (l : Launch) {en : Nat → va_E}  {bl : Int32} {kp : Int32}   {q : Int32} (hn : 110 ≤ n) (e_past : en 12 = .inr (2, [.ref (ad 13), .int bl, .int kp])) (h : f_X5_forget kp = some q) : Met l yX5_forget wsX5_forget { frames := 0, cells := 0, slots := 0, locals := 0 } (va_Pc [.ref (ad 12)] (Wd D cs sa n ad A en)) (va_Qv (fun u => u 12 = .inr (2, [.ref (ad 13), .int bl, .int q]) ∧ (∀ j, (j < 12 ∨ 13 ≤ j) → u j = en j)) (Wd D cs sa n ad A) A) 0 0 A := by
  refine G_startV cX5_forget 1 [(0, .ref (ad 12))] (by decide) rfl (Nat.le_of_ble_eq_true rfl) rfl ?_
  intro p e s m args below meth c Q hC hnm Kr
  have inX5 : ∀ w ∈ u_ws RX5 TX5 3, w ∈ wsX5_forget := by decide +kernel
  have m16 : Cond.fieldLink RX5 16 "TongueTip$Past" "kept" "I" ∈ wsX5_forget := by decide +kernel
  unfold f_X5_forget at h
  have hfr : ∀ j, (j < 12 ∨ 13 ≤ j) → en j = en j := fun _ _ => rfl
  refine G_aload_n hC 0 0 rfl rfl dX5_forget_0 ?_
  refine G_iconst hC (v := 0) (by decide) dX5_forget_1 ?_
  refine G_put hC inX5 tyX5 tyX5_ok nmX5 12 (by omega) e_past rfl 2 (by decide) m16 rfl rfl (ty := .int) rfl rfl rfl (Nat.le_of_ble_eq_true rfl) dX5_forget_2 (fun en2 e_past fr => ?_)
  have e_past : en2 12 = .inr (2, [.ref (ad 13), .int bl, .int (0 : Int32)]) := e_past
  have hfr : ∀ j, (j < 12 ∨ 13 ≤ j) → en2 j = en j := fun j o0 => (fr j (by omega)).trans (hfr j o0)
  have h := Option.some.inj h
  subst h
  exact Kr _ _ _ ⟨e_past, hfr⟩ dX5_forget_5
def f_X5_slotAt_B22    : Option ((Option Nat)) := some none
def f_X5_slotAt  (x1 : Int32) : Option ((Option Nat)) := if x1 < 0 then (f_X5_slotAt_B22) else (if Int32.ofNat 4 ≤ x1 then (f_X5_slotAt_B22) else (if x1 < 0 ∨ 4 ≤ x1.toNatClampNeg then none else (some (some x1.toNatClampNeg))))
set_option maxHeartbeats 4000000 in
set_option maxRecDepth 100000 in
theorem c_X5_slotAt {D : va_G} {cs : Nat → ClassId} {sa : Nat → Nat} {n : Nat} {ad : Nat → Nat} {A : Nat → Prop} (l : Launch) {en : Nat → va_E}  {bl : Int32} {kp : Int32} {x1 : Int32}  {q : (Option Nat)} (hn : 110 ≤ n) (e_past : en 12 = .inr (2, [.ref (ad 13), .int bl, .int kp])) (e_ringarr : en 13 = .inl (cs 4, 4, .inr (.inr (.inr (.inr (ringF ad)))))) (h : f_X5_slotAt x1 = some q) : Met l yX5_slotAt wsX5_slotAt { frames := 0, cells := 0, slots := 0, locals := 0 } (va_Pc [.ref (ad 12), .int x1] (Wd D cs sa n ad A en)) (va_Qq (fun r u => Option.map (fun z => ad (14 + 11 * z)) q = r ∧ en = u) (Wd D cs sa n ad A) A) 0 0 A := by
  refine G_startQ cX5_slotAt 2 [(0, .ref (ad 12)), (1, .int x1)] (by decide) rfl (Nat.le_of_ble_eq_true rfl) rfl ?_
  intro p e s m args below meth c Q hC hnm Kr
  have inX5 : ∀ w ∈ u_ws RX5 TX5 3, w ∈ wsX5_slotAt := by decide +kernel
  have m11 : Cond.fieldLink RX5 11 "TongueTip$Past" "ring" "[LTongueTip$Hall;" ∈ wsX5_slotAt := by decide +kernel
  have hB22 : f_X5_slotAt_B22 = some q → G p l e ({ frames := 0, cells := 0, slots := 0, locals := 0 } : Room) s m args below meth c D n ad A 2 0 0 Q en 22 [] [] := by
    intro h
    unfold f_X5_slotAt_B22 at h
    refine G_null hC dX5_slotAt_22 ?_
    have h := Option.some.inj h
    subst h
    exact Kr none _ _ _ ⟨rfl, rfl⟩ dX5_slotAt_23
  unfold f_X5_slotAt at h
  refine G_iload_n hC 1 1 rfl rfl dX5_slotAt_0 ?_
  refine G_if_lt hC 22 dX5_slotAt_1 (by decide) (fun c1 => ?_) (fun c1 => ?_)
  · have h := ifp c1 h
    refine G_lv [] rfl ?_
    exact hB22 h
  have h := ifn c1 h
  refine G_iload_n hC 1 1 rfl rfl dX5_slotAt_4 ?_
  refine G_aload_n hC 0 0 rfl rfl dX5_slotAt_5 ?_
  refine G_get hC inX5 12 (by omega) (v := .ref (ad 13)) e_past rfl 0 (by decide) m11 rfl rfl dX5_slotAt_6 ?_
  refine G_alen hC 4 13 (by omega) e_ringarr rfl rfl dX5_slotAt_9 ?_
  refine G_icmp_ge hC 22 dX5_slotAt_10 (by decide) (fun c10 => ?_) (fun c10 => ?_)
  · have h := ifp c10 h
    refine G_lv [] rfl ?_
    exact hB22 h
  have h := ifn c10 h
  refine G_aload_n hC 0 0 rfl rfl dX5_slotAt_13 ?_
  refine G_get hC inX5 12 (by omega) (v := .ref (ad 13)) e_past rfl 0 (by decide) m11 rfl rfl dX5_slotAt_14 ?_
  refine G_iload_n hC 1 1 rfl rfl dX5_slotAt_17 ?_
  obtain ⟨g18, h⟩ := asn h
  refine G_aldq hC 13 (by omega) e_ringarr g18 dX5_slotAt_18 ?_
  refine G_eq (st' := [.ref (ad (14 + 11 * x1.toNatClampNeg))]) rfl (by rw [ringF_at g18]) (fun _ _ => rfl) ?_
  refine G_goto hC 23 dX5_slotAt_19 (by decide) ?_
  have h := Option.some.inj h
  subst h
  exact Kr (some (ad (14 + 11 * x1.toNatClampNeg))) _ _ _ ⟨rfl, rfl⟩ dX5_slotAt_23
def f_X5_keep (now : HallV) (bl : Int32) (kp : Int32) (ring : Nat → HallV)  : Option (Int32 × Int32 × (Nat → HallV)) := Option.bind (f_X5_slotAt bl) (fun q5 => Option.elim q5 (some (bl, kp, ring)) (fun z5 => if z5 < 4 then (Option.bind (f_X1_become (ring z5) now) (fun q15 => some (irm (bl + (1 : Int32)) (4 : Int32), imin (4 : Int32) (kp + (1 : Int32)), va_up ring z5 q15))) else none))
set_option maxHeartbeats 4000000 in
set_option maxRecDepth 100000 in
theorem c_X5_keep {D : va_G} {cs : Nat → ClassId} {sa : Nat → Nat} {n : Nat} {ad : Nat → Nat} {A : Nat → Prop} (l : Launch) {en : Nat → va_E}  {now : HallV} {bl : Int32} {kp : Int32} {ring : Nat → HallV}   {q : Int32 × Int32 × (Nat → HallV)} (hn : 110 ≤ n) (e_past : en 12 = .inr (2, [.ref (ad 13), .int bl, .int kp])) (e_ringarr : en 13 = .inl (cs 4, 4, .inr (.inr (.inr (.inr (ringF ad)))))) (H_now : Hall cs ad en 1 now) (F_ring : (∀ i, i < 4 → Hall cs ad en (14 + 11 * i) (ring i))) (h : f_X5_keep now bl kp ring = some q) : Met l yX5_keep wsX5_keep { frames := 2, cells := 0, slots := 0, locals := 43 } (va_Pc [.ref (ad 12), .ref (ad 1)] (Wd D cs sa n ad A en)) (va_Qv (fun u => u 12 = .inr (2, [.ref (ad 13), .int q.1, .int q.2.1]) ∧ (∀ i, i < 4 → Hall cs ad u (14 + 11 * i) (q.2.2 i)) ∧ (∀ j, (j < 12 ∨ 13 ≤ j) → (j < 14 ∨ 58 ≤ j) → u j = en j)) (Wd D cs sa n ad A) A) 0 0 A := by
  refine G_startV cX5_keep 3 [(0, .ref (ad 12)), (1, .ref (ad 1))] (by decide) rfl (Nat.le_of_ble_eq_true rfl) rfl ?_
  intro p e s m args below meth c Q hC hnm Kr
  have inX5 : ∀ w ∈ u_ws RX5 TX5 3, w ∈ wsX5_keep := by decide +kernel
  have m16 : Cond.fieldLink RX5 16 "TongueTip$Past" "kept" "I" ∈ wsX5_keep := by decide +kernel
  have m20 : Cond.fieldLink RX5 20 "TongueTip$Past" "behindLast" "I" ∈ wsX5_keep := by decide +kernel
  have x31 : Cond.methodLink RX5 31 Lib.Math.min.name ∈ wsX5_keep := by decide +kernel
  have xcmin : Cond.code Lib.Math.min.name Lib.Math.min.code 2 (some .int) ∈ wsX5_keep := by decide +kernel
  have xi : Cond.initialized "java/lang/Math" ∈ wsX5_keep := by decide +kernel
  have xsmin : Cond.static Lib.Math.min.name ∈ wsX5_keep := by decide +kernel
  unfold f_X5_keep at h
  have hfr : ∀ j, (j < 12 ∨ 13 ≤ j) → (j < 14 ∨ 58 ≤ j) → en j = en j := fun _ _ _ => rfl
  refine G_aload_n hC 0 0 rfl rfl dX5_keep_0 ?_
  refine G_aload_n hC 0 0 rfl rfl dX5_keep_1 ?_
  refine G_get hC inX5 12 (by omega) (v := .int bl) e_past rfl 1 (by decide) m20 rfl rfl dX5_keep_2 ?_
  obtain ⟨q5, h5, h⟩ := bnd h
  refine G_cVq (st := []) hC _ 12 (by omega) (c_X5_slotAt  l (by omega) e_past e_ringarr h5) (cwV 1 hC.hts gX5_keep_X5_slotAt rfl rfl rfl (by decide +kernel) ⟨Nat.le_of_ble_eq_true rfl, Nat.le_of_ble_eq_true rfl⟩) e_past rfl rfl (Nat.le_of_ble_eq_true rfl) (Nat.zero_le _) (Nat.zero_le _) rfl dX5_keep_5 (fun r5 enx hw => ?_)
  obtain ⟨rfl, rfl⟩ := hw
  cases q5 with
  | none =>
    have h := oel_n h
    refine G_eq (st' := [.null]) rfl rfl (fun _ _ => rfl) ?_
    refine G_astore_nN hC 2 [(2, .null), (0, .ref (ad 12)), (1, .ref (ad 1))] rfl (by decide) rfl dX5_keep_8 ?_
    refine G_aload_nN hC 2 0 rfl rfl dX5_keep_9 ?_
    refine G_ifnullN hC 44 dX5_keep_10 (by decide) ?_
    have h := Option.some.inj h
    subst h
    exact Kr _ _ _ ⟨e_past, F_ring, hfr⟩ dX5_keep_44
  | some z5 =>
    have h := oel_s h
    obtain ⟨g_z5, h⟩ := asr h
    refine G_eq (st' := [.ref (ad (14 + 11 * z5))]) rfl rfl (fun _ _ => rfl) ?_
    refine G_astore_n hC 2 [(2, .ref (ad (14 + 11 * z5))), (0, .ref (ad 12)), (1, .ref (ad 1))] rfl (by decide) rfl dX5_keep_8 ?_
    refine G_aload_n hC 2 0 rfl rfl dX5_keep_9 ?_
    refine G_ifnull hC dX5_keep_10 ?_
    refine G_aload_n hC 2 0 rfl rfl dX5_keep_13 ?_
    refine G_aload_n hC 1 2 rfl rfl dX5_keep_14 ?_
    obtain ⟨q15, h15, h⟩ := bnd h
    refine G_cVv (st := []) hC _ (14 + 11 * z5) (by omega) (c_X1_become (kk := 14 + 11 * z5) (kk2 := 1) l (by omega) (by omega) (by omega) (F_ring z5 g_z5) H_now h15) (cwV 1 hC.hts gX5_keep_X1_become rfl rfl rfl (by decide +kernel) ⟨Nat.le_of_ble_eq_true rfl, Nat.le_of_ble_eq_true rfl⟩) (F_ring z5 g_z5 0 (by decide)) rfl rfl (Nat.le_of_ble_eq_true rfl) (Nat.zero_le _) (Nat.zero_le _) rfl dX5_keep_15 (fun en2 hw => ?_)
    obtain ⟨hz, fr⟩ := hw
    have F_ring : ∀ i, i < 4 → Hall cs ad en2 (14 + 11 * i) ((va_up ring z5 q15) i) := fam_up F_ring hz fr
    have e_past := (fr 12 (by omega)).trans e_past
    have e_ringarr := (fr 13 (by omega)).trans e_ringarr
    have H_now := H_now.fr (fun j h1 h2 => fr j (by omega))
    have hfr : ∀ j, (j < 12 ∨ 13 ≤ j) → (j < 14 ∨ 58 ≤ j) → en2 j = en j := fun j o0 o1 => (fr j (by omega)).trans (hfr j o0 o1)
    refine G_aload_n hC 0 1 rfl rfl dX5_keep_18 ?_
    refine G_aload_n hC 0 1 rfl rfl dX5_keep_19 ?_
    refine G_get hC inX5 12 (by omega) (v := .int bl) e_past rfl 1 (by decide) m20 rfl rfl dX5_keep_20 ?_
    refine G_iconst hC (v := 1) (by decide) dX5_keep_23 ?_
    refine G_iadd hC dX5_keep_24 ?_
    refine G_iconst hC (v := 4) (by decide) dX5_keep_25 ?_
    refine G_irem hC (by decide) dX5_keep_26 ?_
    refine G_put hC inX5 tyX5 tyX5_ok nmX5 12 (by omega) e_past rfl 1 (by decide) m20 rfl rfl (ty := .int) rfl rfl rfl (Nat.le_of_ble_eq_true rfl) dX5_keep_27 (fun en3 e_past fr => ?_)
    have e_past : en3 12 = .inr (2, [.ref (ad 13), .int (irm (bl + (1 : Int32)) (4 : Int32)), .int kp]) := e_past
    have e_ringarr := (fr 13 (by omega)).trans e_ringarr
    have H_now := H_now.fr (fun j h1 h2 => fr j (by omega))
    have F_ring := fun i (hi : i < 4) => (F_ring i hi).fr (fun j h1 h2 => fr j (by omega))
    have hfr : ∀ j, (j < 12 ∨ 13 ≤ j) → (j < 14 ∨ 58 ≤ j) → en3 j = en j := fun j o0 o1 => (fr j (by omega)).trans (hfr j o0 o1)
    refine G_aload_n hC 0 1 rfl rfl dX5_keep_30 ?_
    refine G_iconst hC (v := 4) (by decide) dX5_keep_31 ?_
    refine G_aload_n hC 0 1 rfl rfl dX5_keep_32 ?_
    refine G_get hC inX5 12 (by omega) (v := .int kp) e_past rfl 2 (by decide) m16 rfl rfl dX5_keep_33 ?_
    refine G_iconst hC (v := 1) (by decide) dX5_keep_36 ?_
    refine G_iadd hC dX5_keep_37 ?_
    refine G_mmin hC x31 xsmin xi xcmin (Nat.le_of_ble_eq_true rfl) (Nat.le_of_ble_eq_true rfl) (Nat.zero_le _) (Nat.zero_le _) dX5_keep_38 ?_
    refine G_put hC inX5 tyX5 tyX5_ok nmX5 12 (by omega) e_past rfl 2 (by decide) m16 rfl rfl (ty := .int) rfl rfl rfl (Nat.le_of_ble_eq_true rfl) dX5_keep_41 (fun en4 e_past fr => ?_)
    have e_past : en4 12 = .inr (2, [.ref (ad 13), .int (irm (bl + (1 : Int32)) (4 : Int32)), .int (imin (4 : Int32) (kp + (1 : Int32)))]) := e_past
    have e_ringarr := (fr 13 (by omega)).trans e_ringarr
    have H_now := H_now.fr (fun j h1 h2 => fr j (by omega))
    have F_ring := fun i (hi : i < 4) => (F_ring i hi).fr (fun j h1 h2 => fr j (by omega))
    have hfr : ∀ j, (j < 12 ∨ 13 ≤ j) → (j < 14 ∨ 58 ≤ j) → en4 j = en j := fun j o0 o1 => (fr j (by omega)).trans (hfr j o0 o1)
    have h := Option.some.inj h
    subst h
    exact Kr _ _ _ ⟨e_past, F_ring, hfr⟩ dX5_keep_44
def f_X5_giveBack (now : HallV) (bl : Int32) (kp : Int32) (ring : Nat → HallV)  : Option (Int32 × HallV × Int32 × Int32) := Option.bind (f_X5_slotAt (irm ((bl + (4 : Int32)) - (1 : Int32)) (4 : Int32))) (fun q13 => Option.elim q13 (if kp = 0 then (some ((0 : Int32), now, bl, kp)) else (some ((0 : Int32), now, bl, kp))) (fun z13 => if z13 < 4 then (if kp = 0 then (some ((0 : Int32), now, bl, kp)) else (Option.bind (f_X1_become now (ring z13)) (fun q32 => some ((1 : Int32), q32, irm ((bl + (4 : Int32)) - (1 : Int32)) (4 : Int32), kp - (1 : Int32))))) else none))
set_option maxHeartbeats 4000000 in
set_option maxRecDepth 100000 in
theorem c_X5_giveBack {D : va_G} {cs : Nat → ClassId} {sa : Nat → Nat} {n : Nat} {ad : Nat → Nat} {A : Nat → Prop} (l : Launch) {en : Nat → va_E}  {now : HallV} {bl : Int32} {kp : Int32} {ring : Nat → HallV}   {q : Int32 × HallV × Int32 × Int32} (hn : 110 ≤ n) (e_past : en 12 = .inr (2, [.ref (ad 13), .int bl, .int kp])) (e_ringarr : en 13 = .inl (cs 4, 4, .inr (.inr (.inr (.inr (ringF ad)))))) (H_now : Hall cs ad en 1 now) (F_ring : (∀ i, i < 4 → Hall cs ad en (14 + 11 * i) (ring i))) (h : f_X5_giveBack now bl kp ring = some q) : Met l yX5_giveBack wsX5_giveBack { frames := 2, cells := 0, slots := 0, locals := 43 } (va_Pc [.ref (ad 12), .ref (ad 1)] (Wd D cs sa n ad A en)) (va_Qi (fun r u => q.1 = r ∧ u 12 = .inr (2, [.ref (ad 13), .int q.2.2.1, .int q.2.2.2]) ∧ Hall cs ad u 1 q.2.1 ∧ (∀ j, (j < 12 ∨ 13 ≤ j) → (j < 1 ∨ 12 ≤ j) → u j = en j)) (Wd D cs sa n ad A) A) 0 0 A := by
  refine G_startI cX5_giveBack 4 [(0, .ref (ad 12)), (1, .ref (ad 1))] (by decide) rfl (Nat.le_of_ble_eq_true rfl) rfl ?_
  intro p e s m args below meth c Q hC hnm Kr
  have inX5 : ∀ w ∈ u_ws RX5 TX5 3, w ∈ wsX5_giveBack := by decide +kernel
  have m16 : Cond.fieldLink RX5 16 "TongueTip$Past" "kept" "I" ∈ wsX5_giveBack := by decide +kernel
  have m20 : Cond.fieldLink RX5 20 "TongueTip$Past" "behindLast" "I" ∈ wsX5_giveBack := by decide +kernel
  unfold f_X5_giveBack at h
  have hfr : ∀ j, (j < 12 ∨ 13 ≤ j) → (j < 1 ∨ 12 ≤ j) → en j = en j := fun _ _ _ => rfl
  refine G_aload_n hC 0 0 rfl rfl dX5_giveBack_0 ?_
  refine G_get hC inX5 12 (by omega) (v := .int bl) e_past rfl 1 (by decide) m20 rfl rfl dX5_giveBack_1 ?_
  refine G_iconst hC (v := 4) (by decide) dX5_giveBack_4 ?_
  refine G_iadd hC dX5_giveBack_5 ?_
  refine G_iconst hC (v := 1) (by decide) dX5_giveBack_6 ?_
  refine G_isub hC dX5_giveBack_7 ?_
  refine G_iconst hC (v := 4) (by decide) dX5_giveBack_8 ?_
  refine G_irem hC (by decide) dX5_giveBack_9 ?_
  refine G_istore_n hC 2 [(2, .int (irm ((bl + (4 : Int32)) - (1 : Int32)) (4 : Int32))), (0, .ref (ad 12)), (1, .ref (ad 1))] rfl (by decide) rfl dX5_giveBack_10 ?_
  refine G_aload_n hC 0 1 rfl rfl dX5_giveBack_11 ?_
  refine G_iload_n hC 2 0 rfl rfl dX5_giveBack_12 ?_
  obtain ⟨q13, h13, h⟩ := bnd h
  refine G_cVq (st := []) hC _ 12 (by omega) (c_X5_slotAt  l (by omega) e_past e_ringarr h13) (cwV 1 hC.hts gX5_giveBack_X5_slotAt rfl rfl rfl (by decide +kernel) ⟨Nat.le_of_ble_eq_true rfl, Nat.le_of_ble_eq_true rfl⟩) e_past rfl rfl (Nat.le_of_ble_eq_true rfl) (Nat.zero_le _) (Nat.zero_le _) rfl dX5_giveBack_13 (fun r13 enx hw => ?_)
  obtain ⟨rfl, rfl⟩ := hw
  cases q13 with
  | none =>
    have h := oel_n h
    refine G_eq (st' := [.null]) rfl rfl (fun _ _ => rfl) ?_
    refine G_astore_nN hC 3 [(3, .null), (2, .int (irm ((bl + (4 : Int32)) - (1 : Int32)) (4 : Int32))), (0, .ref (ad 12)), (1, .ref (ad 1))] rfl (by decide) rfl dX5_giveBack_16 ?_
    refine G_aload_n hC 0 2 rfl rfl dX5_giveBack_17 ?_
    refine G_get hC inX5 12 (by omega) (v := .int kp) e_past rfl 2 (by decide) m16 rfl rfl dX5_giveBack_18 ?_
    refine G_if_eq hC 28 dX5_giveBack_21 (by decide) (fun c21 => ?_) (fun c21 => ?_)
    · have h := ifp c21 h
      refine G_iconst hC (v := 0) (by decide) dX5_giveBack_28 ?_
      have h := Option.some.inj h
      subst h
      exact Kr _ _ _ _ (by decide) ⟨rfl, e_past, H_now, hfr⟩ dX5_giveBack_29
    have h := ifn c21 h
    refine G_aload_nN hC 3 0 rfl rfl dX5_giveBack_24 ?_
    refine G_ifnonnullN hC dX5_giveBack_25 ?_
    refine G_iconst hC (v := 0) (by decide) dX5_giveBack_28 ?_
    have h := Option.some.inj h
    subst h
    exact Kr _ _ _ _ (by decide) ⟨rfl, e_past, H_now, hfr⟩ dX5_giveBack_29
  | some z13 =>
    have h := oel_s h
    obtain ⟨g_z13, h⟩ := asr h
    refine G_eq (st' := [.ref (ad (14 + 11 * z13))]) rfl rfl (fun _ _ => rfl) ?_
    refine G_astore_n hC 3 [(3, .ref (ad (14 + 11 * z13))), (2, .int (irm ((bl + (4 : Int32)) - (1 : Int32)) (4 : Int32))), (0, .ref (ad 12)), (1, .ref (ad 1))] rfl (by decide) rfl dX5_giveBack_16 ?_
    refine G_aload_n hC 0 2 rfl rfl dX5_giveBack_17 ?_
    refine G_get hC inX5 12 (by omega) (v := .int kp) e_past rfl 2 (by decide) m16 rfl rfl dX5_giveBack_18 ?_
    refine G_if_eq hC 28 dX5_giveBack_21 (by decide) (fun c21 => ?_) (fun c21 => ?_)
    · have h := ifp c21 h
      refine G_iconst hC (v := 0) (by decide) dX5_giveBack_28 ?_
      have h := Option.some.inj h
      subst h
      exact Kr _ _ _ _ (by decide) ⟨rfl, e_past, H_now, hfr⟩ dX5_giveBack_29
    have h := ifn c21 h
    refine G_aload_n hC 3 0 rfl rfl dX5_giveBack_24 ?_
    refine G_ifnonnull hC 30 dX5_giveBack_25 (by decide) ?_
    refine G_aload_n hC 1 3 rfl rfl dX5_giveBack_30 ?_
    refine G_aload_n hC 3 0 rfl rfl dX5_giveBack_31 ?_
    obtain ⟨q32, h32, h⟩ := bnd h
    refine G_cVv (st := []) hC _ 1 (by omega) (c_X1_become (kk := 1) (kk2 := 14 + 11 * z13) l (by omega) (by omega) (by omega) H_now (F_ring z13 g_z13) h32) (cwV 1 hC.hts gX5_giveBack_X1_become rfl rfl rfl (by decide +kernel) ⟨Nat.le_of_ble_eq_true rfl, Nat.le_of_ble_eq_true rfl⟩) (H_now 0 (by decide)) rfl rfl (Nat.le_of_ble_eq_true rfl) (Nat.zero_le _) (Nat.zero_le _) rfl dX5_giveBack_32 (fun en2 hw => ?_)
    obtain ⟨H_now, fr⟩ := hw
    have e_past := (fr 12 (by omega)).trans e_past
    have e_ringarr := (fr 13 (by omega)).trans e_ringarr
    have F_ring := fun i (hi : i < 4) => (F_ring i hi).fr (fun j h1 h2 => fr j (by omega))
    have hfr : ∀ j, (j < 12 ∨ 13 ≤ j) → (j < 1 ∨ 12 ≤ j) → en2 j = en j := fun j o0 o1 => (fr j (by omega)).trans (hfr j o0 o1)
    refine G_aload_n hC 0 2 rfl rfl dX5_giveBack_35 ?_
    refine G_iload_n hC 2 1 rfl rfl dX5_giveBack_36 ?_
    refine G_put hC inX5 tyX5 tyX5_ok nmX5 12 (by omega) e_past rfl 1 (by decide) m20 rfl rfl (ty := .int) rfl rfl rfl (Nat.le_of_ble_eq_true rfl) dX5_giveBack_37 (fun en3 e_past fr => ?_)
    have e_past : en3 12 = .inr (2, [.ref (ad 13), .int (irm ((bl + (4 : Int32)) - (1 : Int32)) (4 : Int32)), .int kp]) := e_past
    have e_ringarr := (fr 13 (by omega)).trans e_ringarr
    have H_now := H_now.fr (fun j h1 h2 => fr j (by omega))
    have F_ring := fun i (hi : i < 4) => (F_ring i hi).fr (fun j h1 h2 => fr j (by omega))
    have hfr : ∀ j, (j < 12 ∨ 13 ≤ j) → (j < 1 ∨ 12 ≤ j) → en3 j = en j := fun j o0 o1 => (fr j (by omega)).trans (hfr j o0 o1)
    refine G_aload_n hC 0 2 rfl rfl dX5_giveBack_40 ?_
    refine G_dup hC rfl dX5_giveBack_41 ?_
    refine G_get hC inX5 12 (by omega) (v := .int kp) e_past rfl 2 (by decide) m16 rfl rfl dX5_giveBack_42 ?_
    refine G_iconst hC (v := 1) (by decide) dX5_giveBack_45 ?_
    refine G_isub hC dX5_giveBack_46 ?_
    refine G_put hC inX5 tyX5 tyX5_ok nmX5 12 (by omega) e_past rfl 2 (by decide) m16 rfl rfl (ty := .int) rfl rfl rfl (Nat.le_of_ble_eq_true rfl) dX5_giveBack_47 (fun en4 e_past fr => ?_)
    have e_past : en4 12 = .inr (2, [.ref (ad 13), .int (irm ((bl + (4 : Int32)) - (1 : Int32)) (4 : Int32)), .int (kp - (1 : Int32))]) := e_past
    have e_ringarr := (fr 13 (by omega)).trans e_ringarr
    have H_now := H_now.fr (fun j h1 h2 => fr j (by omega))
    have F_ring := fun i (hi : i < 4) => (F_ring i hi).fr (fun j h1 h2 => fr j (by omega))
    have hfr : ∀ j, (j < 12 ∨ 13 ≤ j) → (j < 1 ∨ 12 ≤ j) → en4 j = en j := fun j o0 o1 => (fr j (by omega)).trans (hfr j o0 o1)
    refine G_iconst hC (v := 1) (by decide) dX5_giveBack_50 ?_
    have h := Option.some.inj h
    subst h
    exact Kr _ _ _ _ (by decide) ⟨rfl, e_past, H_now, hfr⟩ dX5_giveBack_51
