def f_X3_mostFrom (nmost : Nat → Int32) (x1 : Int32) (x2 : Int32) : Option (Int32) := Option.bind (f_X10_at nmost 1300 ((x1 * (100 : Int32)) + x2)) (fun q10 => some q10)
set_option maxHeartbeats 4000000 in
set_option maxRecDepth 100000 in
theorem c_X3_mostFrom {D : va_G} {cs : Nat → ClassId} {sa : Nat → Nat} {n : Nat} {ad : Nat → Nat} {A : Nat → Prop} (l : Launch) {en : Nat → va_E}  {nmost : Nat → Int32} {nlearnt : Int32} {x1 : Int32} {x2 : Int32}  {q : Int32} (hn : 110 ≤ n) (e_night : en 98 = .inr (1, [.ref (ad 99), .int nlearnt])) (e_nmostarr : en 99 = .inl (cs 1, 1300, .inl (nmost))) (h : f_X3_mostFrom nmost x1 x2 = some q) : Met l yX3_mostFrom wsX3_mostFrom { frames := 1, cells := 0, slots := 0, locals := 21 } (va_Pc [.ref (ad 98), .int x1, .int x2] (Wd D cs sa n ad A en)) (va_Qi (fun r u => q = r ∧ en = u) (Wd D cs sa n ad A) A) 0 0 A := by
  refine G_startI cX3_mostFrom 3 [(0, .ref (ad 98)), (1, .int x1), (2, .int x2)] (by decide) rfl (Nat.le_of_ble_eq_true rfl) rfl ?_
  intro p e s m args below meth c Q hC hnm Kr
  have inX3 : ∀ w ∈ u_ws RX3 TX3 2, w ∈ wsX3_mostFrom := by decide +kernel
  have m13 : Cond.fieldLink RX3 13 "TongueTip$Night" "most" "[I" ∈ wsX3_mostFrom := by decide +kernel
  have zi_X10_at : Cond.initialized RX10 ∈ wsX3_mostFrom := by decide +kernel
  have zs_X10_at : Cond.static yX10_at ∈ wsX3_mostFrom := by decide +kernel
  unfold f_X3_mostFrom at h
  refine G_aload_n hC 0 0 rfl rfl dX3_mostFrom_0 ?_
  refine G_get hC inX3 98 (by omega) (v := .ref (ad 99)) e_night rfl 0 (by decide) m13 rfl rfl dX3_mostFrom_1 ?_
  refine G_iload_n hC 1 1 rfl rfl dX3_mostFrom_4 ?_
  refine G_bipush hC (v := 100) (by decide) dX3_mostFrom_5 ?_
  refine G_imul hC dX3_mostFrom_7 ?_
  refine G_iload_n hC 2 2 rfl rfl dX3_mostFrom_8 ?_
  refine G_iadd hC dX3_mostFrom_9 ?_
  obtain ⟨q10, h10, h⟩ := bnd h
  refine G_cNi (st := []) hC _ (c_X10_at (pp := 99) l (by omega) e_nmostarr h10) ⟨va_cnB 2 hC.hts gX3_mostFrom_X10_at_n59 rfl rfl rfl (hC.2.2.2.1 ("TongueTip$Night", 59, yX10_at, "TongueTip") (List.mem_of_getElem? (i := 4) rfl)) (hC.hts _ zi_X10_at) (by decide +kernel) ⟨Nat.le_of_ble_eq_true rfl, Nat.le_of_ble_eq_true rfl⟩, hC.hts _ zs_X10_at, trivial⟩ rfl (Nat.le_of_ble_eq_true rfl) (Nat.zero_le _) (Nat.zero_le _) rfl dX3_mostFrom_10 (fun r10 enx hw => ?_)
  obtain ⟨rfl, rfl⟩ := hw
  have h := Option.some.inj h
  subst h
  exact Kr _ _ _ _ (nar_i _) ⟨rfl, rfl⟩ dX3_mostFrom_13
def f_X3_setMost (nmost : Nat → Int32) (x1 : Int32) (x2 : Int32) (x3 : Int32) : Option ((Nat → Int32)) := Option.bind (f_X10_set nmost 1300 ((x1 * (100 : Int32)) + x2) x3) (fun q11 => some q11)
set_option maxHeartbeats 4000000 in
set_option maxRecDepth 100000 in
theorem c_X3_setMost {D : va_G} {cs : Nat → ClassId} {sa : Nat → Nat} {n : Nat} {ad : Nat → Nat} {A : Nat → Prop} (l : Launch) {en : Nat → va_E}  {nmost : Nat → Int32} {nlearnt : Int32} {x1 : Int32} {x2 : Int32} {x3 : Int32}  {q : (Nat → Int32)} (hn : 110 ≤ n) (e_night : en 98 = .inr (1, [.ref (ad 99), .int nlearnt])) (e_nmostarr : en 99 = .inl (cs 1, 1300, .inl (nmost))) (h : f_X3_setMost nmost x1 x2 x3 = some q) : Met l yX3_setMost wsX3_setMost { frames := 1, cells := 0, slots := 0, locals := 22 } (va_Pc [.ref (ad 98), .int x1, .int x2, .int x3] (Wd D cs sa n ad A en)) (va_Qv (fun u => u 99 = .inl (cs 1, 1300, .inl (q)) ∧ (∀ j, (j < 99 ∨ 100 ≤ j) → u j = en j)) (Wd D cs sa n ad A) A) 0 0 A := by
  refine G_startV cX3_setMost 4 [(0, .ref (ad 98)), (1, .int x1), (2, .int x2), (3, .int x3)] (by decide) rfl (Nat.le_of_ble_eq_true rfl) rfl ?_
  intro p e s m args below meth c Q hC hnm Kr
  have inX3 : ∀ w ∈ u_ws RX3 TX3 2, w ∈ wsX3_setMost := by decide +kernel
  have m13 : Cond.fieldLink RX3 13 "TongueTip$Night" "most" "[I" ∈ wsX3_setMost := by decide +kernel
  have zi_X10_set : Cond.initialized RX10 ∈ wsX3_setMost := by decide +kernel
  have zs_X10_set : Cond.static yX10_set ∈ wsX3_setMost := by decide +kernel
  unfold f_X3_setMost at h
  have hfr : ∀ j, (j < 99 ∨ 100 ≤ j) → en j = en j := fun _ _ => rfl
  refine G_aload_n hC 0 0 rfl rfl dX3_setMost_0 ?_
  refine G_get hC inX3 98 (by omega) (v := .ref (ad 99)) e_night rfl 0 (by decide) m13 rfl rfl dX3_setMost_1 ?_
  refine G_iload_n hC 1 1 rfl rfl dX3_setMost_4 ?_
  refine G_bipush hC (v := 100) (by decide) dX3_setMost_5 ?_
  refine G_imul hC dX3_setMost_7 ?_
  refine G_iload_n hC 2 2 rfl rfl dX3_setMost_8 ?_
  refine G_iadd hC dX3_setMost_9 ?_
  refine G_iload_n hC 3 3 rfl rfl dX3_setMost_10 ?_
  obtain ⟨q11, h11, h⟩ := bnd h
  refine G_cNv (st := []) hC _ (c_X10_set (pp := 99) l (by omega) e_nmostarr h11) ⟨va_cnB 3 hC.hts gX3_setMost_X10_set_n63 rfl rfl rfl (hC.2.2.2.1 ("TongueTip$Night", 63, yX10_set, "TongueTip") (List.mem_of_getElem? (i := 5) rfl)) (hC.hts _ zi_X10_set) (by decide +kernel) ⟨Nat.le_of_ble_eq_true rfl, Nat.le_of_ble_eq_true rfl⟩, hC.hts _ zs_X10_set, trivial⟩ rfl (Nat.le_of_ble_eq_true rfl) (Nat.zero_le _) (Nat.zero_le _) rfl dX3_setMost_11 (fun en2 hw => ?_)
  obtain ⟨e_nmostarr, fr⟩ := hw
  have e_night := (fr 98 (by omega)).trans e_night
  have hfr : ∀ j, (j < 99 ∨ 100 ≤ j) → en2 j = en j := fun j o0 => (fr j (by omega)).trans (hfr j o0)
  have h := Option.some.inj h
  subst h
  exact Kr _ _ _ ⟨e_nmostarr, hfr⟩ dX3_setMost_14
def f_X3_mostLeft (nmost : Nat → Int32) (x1 : Int32) : Option (Int32) := Option.bind (f_X3_mostFrom nmost (0 : Int32) x1) (fun q3 => some q3)
set_option maxHeartbeats 4000000 in
set_option maxRecDepth 100000 in
theorem c_X3_mostLeft {D : va_G} {cs : Nat → ClassId} {sa : Nat → Nat} {n : Nat} {ad : Nat → Nat} {A : Nat → Prop} (l : Launch) {en : Nat → va_E}  {nmost : Nat → Int32} {nlearnt : Int32} {x1 : Int32}  {q : Int32} (hn : 110 ≤ n) (e_night : en 98 = .inr (1, [.ref (ad 99), .int nlearnt])) (e_nmostarr : en 99 = .inl (cs 1, 1300, .inl (nmost))) (h : f_X3_mostLeft nmost x1 = some q) : Met l yX3_mostLeft wsX3_mostLeft { frames := 2, cells := 0, slots := 0, locals := 43 } (va_Pc [.ref (ad 98), .int x1] (Wd D cs sa n ad A en)) (va_Qi (fun r u => q = r ∧ en = u) (Wd D cs sa n ad A) A) 0 0 A := by
  refine G_startI cX3_mostLeft 2 [(0, .ref (ad 98)), (1, .int x1)] (by decide) rfl (Nat.le_of_ble_eq_true rfl) rfl ?_
  intro p e s m args below meth c Q hC hnm Kr
  unfold f_X3_mostLeft at h
  refine G_aload_n hC 0 0 rfl rfl dX3_mostLeft_0 ?_
  refine G_iconst hC (v := 0) (by decide) dX3_mostLeft_1 ?_
  refine G_iload_n hC 1 1 rfl rfl dX3_mostLeft_2 ?_
  obtain ⟨q3, h3, h⟩ := bnd h
  refine G_cVi (st := []) hC _ 98 (by omega) (c_X3_mostFrom  l (by omega) e_night e_nmostarr h3) (cwV 2 hC.hts gX3_mostLeft_X3_mostFrom rfl rfl rfl (by decide +kernel) ⟨Nat.le_of_ble_eq_true rfl, Nat.le_of_ble_eq_true rfl⟩) e_night rfl rfl (Nat.le_of_ble_eq_true rfl) (Nat.zero_le _) (Nat.zero_le _) rfl dX3_mostLeft_3 (fun r3 enx hw => ?_)
  obtain ⟨rfl, rfl⟩ := hw
  have h := Option.some.inj h
  subst h
  exact Kr _ _ _ _ (nar_i _) ⟨rfl, rfl⟩ dX3_mostLeft_6
def f_X3_leftOf_B52 (now : HallV)  (s0 : Int32) (s1 : Int32) (s2 : Int32) : Option (Int32) := some (imin s0 (s1 + s2))
def f_X3_leftOf_B51 (now : HallV)  (s0 : Int32) (s1 : Int32) : Option (Int32) := f_X3_leftOf_B52 now s0 s1 (0 : Int32)
def f_X3_leftOf_B20 (now : HallV)  (x1 : Int32) (x2 : Int32) (s0 : Int32) : Option (Int32) := Option.bind (f_X1_strengthLeft now x1 (0 : Int32)) (fun q24 => Option.bind (f_X1_law now x2) (fun q29 => if x2 ≤ 0 then (f_X3_leftOf_B51 now (20 : Int32) (q24 + q29)) else (if s0 = 0 then (f_X3_leftOf_B51 now (20 : Int32) (q24 + q29)) else (f_X3_leftOf_B52 now (20 : Int32) (q24 + q29) (2 : Int32)))))
def f_X3_leftOf (now : HallV) (x1 : Int32) (x2 : Int32) : Option (Int32) := Option.bind (f_X1_partOf now x1 (3 : Int32)) (fun q3 => Option.bind (f_X1_partOf now x1 (4 : Int32)) (fun q9 => if q3 = q9 then (f_X3_leftOf_B20 now x1 x2 (1 : Int32)) else (f_X3_leftOf_B20 now x1 x2 (0 : Int32))))
set_option maxHeartbeats 4000000 in
set_option maxRecDepth 100000 in
theorem c_X3_leftOf {D : va_G} {cs : Nat → ClassId} {sa : Nat → Nat} {n : Nat} {ad : Nat → Nat} {A : Nat → Prop} (l : Launch) {en : Nat → va_E}  {now : HallV} {x1 : Int32} {x2 : Int32}  {q : Int32} (hn : 110 ≤ n) (H_now : Hall cs ad en 1 now) (h : f_X3_leftOf now x1 x2 = some q) : Met l yX3_leftOf wsX3_leftOf { frames := 3, cells := 0, slots := 0, locals := 69 } (va_Pc [.ref (ad 1), .int x1, .int x2] (Wd D cs sa n ad A en)) (va_Qi (fun r u => q = r ∧ en = u) (Wd D cs sa n ad A) A) 0 0 A := by
  refine G_startI cX3_leftOf 5 [(0, .ref (ad 1)), (1, .int x1), (2, .int x2)] (by decide) rfl (Nat.le_of_ble_eq_true rfl) rfl ?_
  intro p e s m args below meth c Q hC hnm Kr
  have x54 : Cond.methodLink RX3 54 Lib.Math.min.name ∈ wsX3_leftOf := by decide +kernel
  have xcmin : Cond.code Lib.Math.min.name Lib.Math.min.code 2 (some .int) ∈ wsX3_leftOf := by decide +kernel
  have xi : Cond.initialized "java/lang/Math" ∈ wsX3_leftOf := by decide +kernel
  have xsmin : Cond.static Lib.Math.min.name ∈ wsX3_leftOf := by decide +kernel
  have hB52 : ∀ (s0 : Int32) (s1 : Int32) (s2 : Int32), f_X3_leftOf_B52 now s0 s1 s2 = some q → G p l e ({ frames := 3, cells := 0, slots := 0, locals := 69 } : Room) s m args below meth c D n ad A 5 0 0 Q en 52 [] [.int s2, .int s1, .int s0] := by
    intro s0 s1 s2 h
    unfold f_X3_leftOf_B52 at h
    refine G_iadd hC dX3_leftOf_52 ?_
    refine G_mmin hC x54 xsmin xi xcmin (Nat.le_of_ble_eq_true rfl) (Nat.le_of_ble_eq_true rfl) (Nat.zero_le _) (Nat.zero_le _) dX3_leftOf_53 ?_
    have h := Option.some.inj h
    subst h
    exact Kr _ _ _ _ (nar_i _) ⟨rfl, rfl⟩ dX3_leftOf_56
  have hB51 : ∀ (s0 : Int32) (s1 : Int32), f_X3_leftOf_B51 now s0 s1 = some q → G p l e ({ frames := 3, cells := 0, slots := 0, locals := 69 } : Room) s m args below meth c D n ad A 5 0 0 Q en 51 [] [.int s1, .int s0] := by
    intro s0 s1 h
    unfold f_X3_leftOf_B51 at h
    refine G_iconst hC (v := 0) (by decide) dX3_leftOf_51 ?_
    refine G_lv [] rfl ?_
    exact hB52 _ _ _ h
  have hB20 : ∀ (x1 : Int32) (x2 : Int32) (s0 : Int32), f_X3_leftOf_B20 now x1 x2 s0 = some q → G p l e ({ frames := 3, cells := 0, slots := 0, locals := 69 } : Room) s m args below meth c D n ad A 5 0 0 Q en 20 [(0, .ref (ad 1)), (1, .int x1), (2, .int x2)] [.int s0] := by
    intro x1 x2 s0 h
    unfold f_X3_leftOf_B20 at h
    refine G_istore_n hC 3 [(3, .int s0), (0, .ref (ad 1)), (1, .int x1), (2, .int x2)] rfl (by decide) rfl dX3_leftOf_20 ?_
    refine G_aload_n hC 0 1 rfl rfl dX3_leftOf_21 ?_
    refine G_iload_n hC 1 2 rfl rfl dX3_leftOf_22 ?_
    refine G_iconst hC (v := 0) (by decide) dX3_leftOf_23 ?_
    obtain ⟨q24, h24, h⟩ := bnd h
    refine G_cVi (st := []) hC _ 1 (by omega) (c_X1_strengthLeft (kk := 1) l (by omega) H_now h24) (cwV 2 hC.hts gX3_leftOf_X1_strengthLeft rfl rfl rfl (by decide +kernel) ⟨Nat.le_of_ble_eq_true rfl, Nat.le_of_ble_eq_true rfl⟩) (H_now 0 (by decide)) rfl rfl (Nat.le_of_ble_eq_true rfl) (Nat.zero_le _) (Nat.zero_le _) rfl dX3_leftOf_24 (fun r24 enx hw => ?_)
    obtain ⟨rfl, rfl⟩ := hw
    refine G_aload_n hC 0 1 rfl rfl dX3_leftOf_27 ?_
    refine G_iload_n hC 2 3 rfl rfl dX3_leftOf_28 ?_
    obtain ⟨q29, h29, h⟩ := bnd h
    refine G_cVi (st := [.int q24]) hC _ 1 (by omega) (c_X1_law (kk := 1) l (by omega) H_now h29) (cwV 1 hC.hts gX3_leftOf_X1_law rfl rfl rfl (by decide +kernel) ⟨Nat.le_of_ble_eq_true rfl, Nat.le_of_ble_eq_true rfl⟩) (H_now 0 (by decide)) rfl rfl (Nat.le_of_ble_eq_true rfl) (Nat.zero_le _) (Nat.zero_le _) rfl dX3_leftOf_29 (fun r29 enx hw => ?_)
    obtain ⟨rfl, rfl⟩ := hw
    refine G_iadd hC dX3_leftOf_32 ?_
    refine G_istore hC 4 [(4, .int (q24 + q29)), (3, .int s0), (0, .ref (ad 1)), (1, .int x1), (2, .int x2)] (by decide) rfl dX3_leftOf_33 ?_
    refine G_bipush hC (v := 20) (by decide) dX3_leftOf_35 ?_
    refine G_iload hC 4 0 rfl dX3_leftOf_37 ?_
    refine G_iload_n hC 2 4 rfl rfl dX3_leftOf_39 ?_
    refine G_if_le hC 51 dX3_leftOf_40 (by decide) (fun c40 => ?_) (fun c40 => ?_)
    · have h := ifp c40 h
      refine G_lv [] rfl ?_
      exact hB51 _ _ h
    have h := ifn c40 h
    refine G_iload_n hC 3 1 rfl rfl dX3_leftOf_43 ?_
    refine G_if_eq hC 51 dX3_leftOf_44 (by decide) (fun c44 => ?_) (fun c44 => ?_)
    · have h := ifp c44 h
      refine G_lv [] rfl ?_
      exact hB51 _ _ h
    have h := ifn c44 h
    refine G_iconst hC (v := 2) (by decide) dX3_leftOf_47 ?_
    refine G_goto hC 52 dX3_leftOf_48 (by decide) ?_
    refine G_lv [] rfl ?_
    exact hB52 _ _ _ h
  unfold f_X3_leftOf at h
  refine G_aload_n hC 0 0 rfl rfl dX3_leftOf_0 ?_
  refine G_iload_n hC 1 1 rfl rfl dX3_leftOf_1 ?_
  refine G_iconst hC (v := 3) (by decide) dX3_leftOf_2 ?_
  obtain ⟨q3, h3, h⟩ := bnd h
  refine G_cVi (st := []) hC _ 1 (by omega) (c_X1_partOf (kk := 1) l (by omega) H_now h3) (cwV 2 hC.hts gX3_leftOf_X1_partOf rfl rfl rfl (by decide +kernel) ⟨Nat.le_of_ble_eq_true rfl, Nat.le_of_ble_eq_true rfl⟩) (H_now 0 (by decide)) rfl rfl (Nat.le_of_ble_eq_true rfl) (Nat.zero_le _) (Nat.zero_le _) rfl dX3_leftOf_3 (fun r3 enx hw => ?_)
  obtain ⟨rfl, rfl⟩ := hw
  refine G_aload_n hC 0 0 rfl rfl dX3_leftOf_6 ?_
  refine G_iload_n hC 1 1 rfl rfl dX3_leftOf_7 ?_
  refine G_iconst hC (v := 4) (by decide) dX3_leftOf_8 ?_
  obtain ⟨q9, h9, h⟩ := bnd h
  refine G_cVi (st := [.int q3]) hC _ 1 (by omega) (c_X1_partOf (kk := 1) l (by omega) H_now h9) (cwV 2 hC.hts gX3_leftOf_X1_partOf rfl rfl rfl (by decide +kernel) ⟨Nat.le_of_ble_eq_true rfl, Nat.le_of_ble_eq_true rfl⟩) (H_now 0 (by decide)) rfl rfl (Nat.le_of_ble_eq_true rfl) (Nat.zero_le _) (Nat.zero_le _) rfl dX3_leftOf_9 (fun r9 enx hw => ?_)
  obtain ⟨rfl, rfl⟩ := hw
  refine G_icmp_ne hC 19 dX3_leftOf_12 (by decide) (fun c12 => ?_) (fun c12 => ?_)
  · have h := ifn c12 h
    refine G_iconst hC (v := 0) (by decide) dX3_leftOf_19 ?_
    refine G_lv [0, 1, 2] rfl ?_
    exact hB20 _ _ _ h
  have h := ifp c12 h
  refine G_iconst hC (v := 1) (by decide) dX3_leftOf_15 ?_
  refine G_goto hC 20 dX3_leftOf_16 (by decide) ?_
  refine G_lv [0, 1, 2] rfl ?_
  exact hB20 _ _ _ h
def f_X3_fewestTimes_B60 (now : HallV) (nmost : Nat → Int32) (rL3 : Int32 → Int32 → Int32 → Option (Int32)) (x2 : Int32) (x3 : Int32) (x4 : Int32) : Option (Int32) := rL3 x2 x3 (x4 + (1 : Int32))
def f_X3_fewestTimes_L3 (now : HallV) (nmost : Nat → Int32)  : Nat → Int32 → Int32 → Int32 → Option (Int32)
  | 0, _, _, _ => none
  | fu + 1, x2, x3, x4 => if (5 : Int32) < x4 then (some (0 : Int32)) else (Option.bind (f_X1_partOf now x2 (1 : Int32)) (fun q15 => Option.bind (f_X3_leftOf now x2 x4) (fun q26 => Option.bind (f_X3_mostFrom nmost (x2 + (1 : Int32)) (x3 - (x4 * q15))) (fun q35 => if x3 - (x4 * q15) < 0 then (f_X3_fewestTimes_B60 now nmost (f_X3_fewestTimes_L3 now nmost fu) x2 x3 x4) else (Option.bind (f_X3_mostFrom nmost x2 x3) (fun q51 => if q26 + q35 = q51 then (some x4) else (f_X3_fewestTimes_B60 now nmost (f_X3_fewestTimes_L3 now nmost fu) x2 x3 x4)))))))
def f_X3_fewestTimes (now : HallV) (nmost : Nat → Int32) (x2 : Int32) (x3 : Int32) : Option (Int32) := f_X3_fewestTimes_L3 now nmost FU x2 x3 (0 : Int32)
set_option maxHeartbeats 4000000 in
set_option maxRecDepth 100000 in
theorem c_X3_fewestTimes {D : va_G} {cs : Nat → ClassId} {sa : Nat → Nat} {n : Nat} {ad : Nat → Nat} {A : Nat → Prop} (l : Launch) {en : Nat → va_E}  {now : HallV} {nmost : Nat → Int32} {nlearnt : Int32} {x2 : Int32} {x3 : Int32}  {q : Int32} (hn : 110 ≤ n) (e_night : en 98 = .inr (1, [.ref (ad 99), .int nlearnt])) (e_nmostarr : en 99 = .inl (cs 1, 1300, .inl (nmost))) (H_now : Hall cs ad en 1 now) (h : f_X3_fewestTimes now nmost x2 x3 = some q) : Met l yX3_fewestTimes wsX3_fewestTimes { frames := 4, cells := 0, slots := 0, locals := 93 } (va_Pc [.ref (ad 98), .ref (ad 1), .int x2, .int x3] (Wd D cs sa n ad A en)) (va_Qi (fun r u => q = r ∧ en = u) (Wd D cs sa n ad A) A) 0 0 A := by
  refine G_startI cX3_fewestTimes 7 [(0, .ref (ad 98)), (1, .ref (ad 1)), (2, .int x2), (3, .int x3)] (by decide) rfl (Nat.le_of_ble_eq_true rfl) rfl ?_
  intro p e s m args below meth c Q hC hnm Kr
  have hL3 : ∀ (fu3 : Nat), ∀ (x2 : Int32) (x3 : Int32) (x4 : Int32), f_X3_fewestTimes_L3 now nmost fu3 x2 x3 x4 = some q → G p l e ({ frames := 4, cells := 0, slots := 0, locals := 93 } : Room) s m args below meth c D n ad A 7 0 0 Q en 3 [(0, .ref (ad 98)), (1, .ref (ad 1)), (2, .int x2), (3, .int x3), (4, .int x4)] [] := by
    intro fu3
    induction fu3 with
    | zero =>
      intro x2 x3 x4 h
      rw [f_X3_fewestTimes_L3] at h
      cases h
    | succ fu3 ih3 =>
      have hB60 : ∀ (x2 : Int32) (x3 : Int32) (x4 : Int32), f_X3_fewestTimes_B60 now nmost (f_X3_fewestTimes_L3 now nmost fu3) x2 x3 x4 = some q → G p l e ({ frames := 4, cells := 0, slots := 0, locals := 93 } : Room) s m args below meth c D n ad A 7 0 0 Q en 60 [(0, .ref (ad 98)), (1, .ref (ad 1)), (2, .int x2), (3, .int x3), (4, .int x4)] [] := by
        intro x2 x3 x4 h
        unfold f_X3_fewestTimes_B60 at h
        refine G_iinc hC 4 4 [(4, .int (x4 + (1 : Int32))), (0, .ref (ad 98)), (1, .ref (ad 1)), (2, .int x2), (3, .int x3)] rfl rfl (by decide) rfl dX3_fewestTimes_60 ?_
        refine G_goto hC 3 dX3_fewestTimes_63 (by decide) ?_
        refine G_lv [1, 2, 3, 4, 0] rfl ?_
        exact ih3 _ _ _ h
      intro x2 x3 x4 h
      rw [f_X3_fewestTimes_L3] at h
      refine G_iload hC 4 4 rfl dX3_fewestTimes_3 ?_
      refine G_iconst hC (v := 5) (by decide) dX3_fewestTimes_5 ?_
      refine G_icmp_gt hC 66 dX3_fewestTimes_6 (by decide) (fun c6 => ?_) (fun c6 => ?_)
      · have h := ifp c6 h
        refine G_iconst hC (v := 0) (by decide) dX3_fewestTimes_66 ?_
        have h := Option.some.inj h
        subst h
        exact Kr _ _ _ _ (nar_i _) ⟨rfl, rfl⟩ dX3_fewestTimes_67
      have h := ifn c6 h
      refine G_iload_n hC 3 3 rfl rfl dX3_fewestTimes_9 ?_
      refine G_iload hC 4 4 rfl dX3_fewestTimes_10 ?_
      refine G_aload_n hC 1 1 rfl rfl dX3_fewestTimes_12 ?_
      refine G_iload_n hC 2 2 rfl rfl dX3_fewestTimes_13 ?_
      refine G_iconst hC (v := 1) (by decide) dX3_fewestTimes_14 ?_
      obtain ⟨q15, h15, h⟩ := bnd h
      refine G_cVi (st := [.int x4, .int x3]) hC _ 1 (by omega) (c_X1_partOf (kk := 1) l (by omega) H_now h15) (cwV 2 hC.hts gX3_fewestTimes_X1_partOf rfl rfl rfl (by decide +kernel) ⟨Nat.le_of_ble_eq_true rfl, Nat.le_of_ble_eq_true rfl⟩) (H_now 0 (by decide)) rfl rfl (Nat.le_of_ble_eq_true rfl) (Nat.zero_le _) (Nat.zero_le _) rfl dX3_fewestTimes_15 (fun r15 enx hw => ?_)
      obtain ⟨rfl, rfl⟩ := hw
      refine G_imul hC dX3_fewestTimes_18 ?_
      refine G_isub hC dX3_fewestTimes_19 ?_
      refine G_istore hC 5 [(5, .int (x3 - (x4 * q15))), (0, .ref (ad 98)), (1, .ref (ad 1)), (2, .int x2), (3, .int x3), (4, .int x4)] (by decide) rfl dX3_fewestTimes_20 ?_
      refine G_aload_n hC 1 2 rfl rfl dX3_fewestTimes_22 ?_
      refine G_iload_n hC 2 3 rfl rfl dX3_fewestTimes_23 ?_
      refine G_iload hC 4 5 rfl dX3_fewestTimes_24 ?_
      obtain ⟨q26, h26, h⟩ := bnd h
      refine G_cSi (st := []) hC _ (c_X3_leftOf  l (by omega) H_now h26) (va_cwS 3 hC.hts gX3_fewestTimes_X3_leftOf rfl rfl rfl (by decide +kernel) ⟨Nat.le_of_ble_eq_true rfl, Nat.le_of_ble_eq_true rfl⟩) rfl (Nat.le_of_ble_eq_true rfl) (Nat.zero_le _) (Nat.zero_le _) rfl dX3_fewestTimes_26 (fun r26 enx hw => ?_)
      obtain ⟨rfl, rfl⟩ := hw
      refine G_aload_n hC 0 1 rfl rfl dX3_fewestTimes_29 ?_
      refine G_iload_n hC 2 3 rfl rfl dX3_fewestTimes_30 ?_
      refine G_iconst hC (v := 1) (by decide) dX3_fewestTimes_31 ?_
      refine G_iadd hC dX3_fewestTimes_32 ?_
      refine G_iload hC 5 0 rfl dX3_fewestTimes_33 ?_
      obtain ⟨q35, h35, h⟩ := bnd h
      refine G_cVi (st := [.int q26]) hC _ 98 (by omega) (c_X3_mostFrom  l (by omega) e_night e_nmostarr h35) (cwV 2 hC.hts gX3_fewestTimes_X3_mostFrom rfl rfl rfl (by decide +kernel) ⟨Nat.le_of_ble_eq_true rfl, Nat.le_of_ble_eq_true rfl⟩) e_night rfl rfl (Nat.le_of_ble_eq_true rfl) (Nat.zero_le _) (Nat.zero_le _) rfl dX3_fewestTimes_35 (fun r35 enx hw => ?_)
      obtain ⟨rfl, rfl⟩ := hw
      refine G_iadd hC dX3_fewestTimes_38 ?_
      refine G_istore hC 6 [(6, .int (q26 + q35)), (5, .int (x3 - (x4 * q15))), (0, .ref (ad 98)), (1, .ref (ad 1)), (2, .int x2), (3, .int x3), (4, .int x4)] (by decide) rfl dX3_fewestTimes_39 ?_
      refine G_iload hC 5 1 rfl dX3_fewestTimes_41 ?_
      refine G_if_lt hC 60 dX3_fewestTimes_43 (by decide) (fun c43 => ?_) (fun c43 => ?_)
      · have h := ifp c43 h
        refine G_lv [2, 3, 4, 5, 6] rfl ?_
        exact hB60 _ _ _ h
      have h := ifn c43 h
      refine G_iload hC 6 0 rfl dX3_fewestTimes_46 ?_
      refine G_aload_n hC 0 2 rfl rfl dX3_fewestTimes_48 ?_
      refine G_iload_n hC 2 4 rfl rfl dX3_fewestTimes_49 ?_
      refine G_iload_n hC 3 5 rfl rfl dX3_fewestTimes_50 ?_
      obtain ⟨q51, h51, h⟩ := bnd h
      refine G_cVi (st := [.int (q26 + q35)]) hC _ 98 (by omega) (c_X3_mostFrom  l (by omega) e_night e_nmostarr h51) (cwV 2 hC.hts gX3_fewestTimes_X3_mostFrom rfl rfl rfl (by decide +kernel) ⟨Nat.le_of_ble_eq_true rfl, Nat.le_of_ble_eq_true rfl⟩) e_night rfl rfl (Nat.le_of_ble_eq_true rfl) (Nat.zero_le _) (Nat.zero_le _) rfl dX3_fewestTimes_51 (fun r51 enx hw => ?_)
      obtain ⟨rfl, rfl⟩ := hw
      refine G_icmp_ne hC 60 dX3_fewestTimes_54 (by decide) (fun c54 => ?_) (fun c54 => ?_)
      · have h := ifn c54 h
        refine G_lv [2, 3, 4, 5, 6] rfl ?_
        exact hB60 _ _ _ h
      have h := ifp c54 h
      refine G_iload hC 4 6 rfl dX3_fewestTimes_57 ?_
      have h := Option.some.inj h
      subst h
      exact Kr _ _ _ _ (nar_i _) ⟨rfl, rfl⟩ dX3_fewestTimes_59
  unfold f_X3_fewestTimes at h
  refine G_iconst hC (v := 0) (by decide) dX3_fewestTimes_0 ?_
  refine G_istore hC 4 [(4, .int (0 : Int32)), (0, .ref (ad 98)), (1, .ref (ad 1)), (2, .int x2), (3, .int x3)] (by decide) rfl dX3_fewestTimes_1 ?_
  refine G_lv [1, 2, 3, 4, 0] rfl ?_
  exact hL3 FU _ _ _ h
def f_X3_timesOf_B47 (now : HallV) (nmost : Nat → Int32) (nlearnt : Int32) (rL9 : Int32 → Int32 → Int32 → Int32 → Option (Int32)) (x3 : Int32) (x4 : Int32) (x6 : Int32) (s0 : Int32) : Option (Int32) := Option.bind (f_X1_partOf now x6 (1 : Int32)) (fun q57 => rL9 x3 (x4 - (s0 * q57)) s0 (x6 + (1 : Int32)))
def f_X3_timesOf_L9 (now : HallV) (nmost : Nat → Int32) (nlearnt : Int32)  : Nat → Int32 → Int32 → Int32 → Int32 → Option (Int32)
  | 0, _, _, _, _ => none
  | fu + 1, x3, x4, x5, x6 => if x3 < x6 then (some x5) else (if (12 : Int32) ≤ x6 then (some x5) else (Option.bind (f_X10_isIn nlearnt x6) (fun q28 => if q28 = 0 then (f_X3_timesOf_B47 now nmost nlearnt (f_X3_timesOf_L9 now nmost nlearnt fu) x3 x4 x6 (0 : Int32)) else (Option.bind (f_X3_fewestTimes now nmost x6 x4) (fun q40 => f_X3_timesOf_B47 now nmost nlearnt (f_X3_timesOf_L9 now nmost nlearnt fu) x3 x4 x6 q40)))))
def f_X3_timesOf (now : HallV) (nmost : Nat → Int32) (nlearnt : Int32) (x2 : Int32) (x3 : Int32) : Option (Int32) := f_X3_timesOf_L9 now nmost nlearnt FU x3 x2 (0 : Int32) (0 : Int32)
set_option maxHeartbeats 4000000 in
set_option maxRecDepth 100000 in
theorem c_X3_timesOf {D : va_G} {cs : Nat → ClassId} {sa : Nat → Nat} {n : Nat} {ad : Nat → Nat} {A : Nat → Prop} (l : Launch) {en : Nat → va_E}  {now : HallV} {nmost : Nat → Int32} {nlearnt : Int32} {x2 : Int32} {x3 : Int32}  {q : Int32} (hn : 110 ≤ n) (e_night : en 98 = .inr (1, [.ref (ad 99), .int nlearnt])) (e_nmostarr : en 99 = .inl (cs 1, 1300, .inl (nmost))) (H_now : Hall cs ad en 1 now) (h : f_X3_timesOf now nmost nlearnt x2 x3 = some q) : Met l yX3_timesOf wsX3_timesOf { frames := 5, cells := 0, slots := 0, locals := 119 } (va_Pc [.ref (ad 98), .ref (ad 1), .int x2, .int x3] (Wd D cs sa n ad A en)) (va_Qi (fun r u => q = r ∧ en = u) (Wd D cs sa n ad A) A) 0 0 A := by
  refine G_startI cX3_timesOf 7 [(0, .ref (ad 98)), (1, .ref (ad 1)), (2, .int x2), (3, .int x3)] (by decide) rfl (Nat.le_of_ble_eq_true rfl) rfl ?_
  intro p e s m args below meth c Q hC hnm Kr
  have inX3 : ∀ w ∈ u_ws RX3 TX3 2, w ∈ wsX3_timesOf := by decide +kernel
  have m17 : Cond.fieldLink RX3 17 "TongueTip$Night" "learnt" "I" ∈ wsX3_timesOf := by decide +kernel
  have zi_X10_isIn : Cond.initialized RX10 ∈ wsX3_timesOf := by decide +kernel
  have zs_X10_isIn : Cond.static yX10_isIn ∈ wsX3_timesOf := by decide +kernel
  have hL9 : ∀ (fu9 : Nat), ∀ (x3 : Int32) (x4 : Int32) (x5 : Int32) (x6 : Int32), f_X3_timesOf_L9 now nmost nlearnt fu9 x3 x4 x5 x6 = some q → G p l e ({ frames := 5, cells := 0, slots := 0, locals := 119 } : Room) s m args below meth c D n ad A 7 0 0 Q en 9 [(0, .ref (ad 98)), (1, .ref (ad 1)), (3, .int x3), (4, .int x4), (5, .int x5), (6, .int x6)] [] := by
    intro fu9
    induction fu9 with
    | zero =>
      intro x3 x4 x5 x6 h
      rw [f_X3_timesOf_L9] at h
      cases h
    | succ fu9 ih9 =>
      have hB47 : ∀ (x3 : Int32) (x4 : Int32) (x6 : Int32) (s0 : Int32), f_X3_timesOf_B47 now nmost nlearnt (f_X3_timesOf_L9 now nmost nlearnt fu9) x3 x4 x6 s0 = some q → G p l e ({ frames := 5, cells := 0, slots := 0, locals := 119 } : Room) s m args below meth c D n ad A 7 0 0 Q en 47 [(0, .ref (ad 98)), (1, .ref (ad 1)), (3, .int x3), (4, .int x4), (6, .int x6)] [.int s0] := by
        intro x3 x4 x6 s0 h
        unfold f_X3_timesOf_B47 at h
        refine G_istore hC 5 [(5, .int s0), (0, .ref (ad 98)), (1, .ref (ad 1)), (3, .int x3), (4, .int x4), (6, .int x6)] (by decide) rfl dX3_timesOf_47 ?_
        refine G_iload hC 4 4 rfl dX3_timesOf_49 ?_
        refine G_iload hC 5 0 rfl dX3_timesOf_51 ?_
        refine G_aload_n hC 1 2 rfl rfl dX3_timesOf_53 ?_
        refine G_iload hC 6 5 rfl dX3_timesOf_54 ?_
        refine G_iconst hC (v := 1) (by decide) dX3_timesOf_56 ?_
        obtain ⟨q57, h57, h⟩ := bnd h
        refine G_cVi (st := [.int s0, .int x4]) hC _ 1 (by omega) (c_X1_partOf (kk := 1) l (by omega) H_now h57) (cwV 2 hC.hts gX3_timesOf_X1_partOf rfl rfl rfl (by decide +kernel) ⟨Nat.le_of_ble_eq_true rfl, Nat.le_of_ble_eq_true rfl⟩) (H_now 0 (by decide)) rfl rfl (Nat.le_of_ble_eq_true rfl) (Nat.zero_le _) (Nat.zero_le _) rfl dX3_timesOf_57 (fun r57 enx hw => ?_)
        obtain ⟨rfl, rfl⟩ := hw
        refine G_imul hC dX3_timesOf_60 ?_
        refine G_isub hC dX3_timesOf_61 ?_
        refine G_istore hC 4 [(4, .int (x4 - (s0 * q57))), (5, .int s0), (0, .ref (ad 98)), (1, .ref (ad 1)), (3, .int x3), (6, .int x6)] (by decide) rfl dX3_timesOf_62 ?_
        refine G_iinc hC 6 5 [(6, .int (x6 + (1 : Int32))), (4, .int (x4 - (s0 * q57))), (5, .int s0), (0, .ref (ad 98)), (1, .ref (ad 1)), (3, .int x3)] rfl rfl (by decide) rfl dX3_timesOf_64 ?_
        refine G_goto hC 9 dX3_timesOf_67 (by decide) ?_
        refine G_lv [3, 4, 5, 1, 2, 0] rfl ?_
        exact ih9 _ _ _ _ h
      intro x3 x4 x5 x6 h
      rw [f_X3_timesOf_L9] at h
      refine G_iload hC 6 5 rfl dX3_timesOf_9 ?_
      refine G_iload_n hC 3 2 rfl rfl dX3_timesOf_11 ?_
      refine G_icmp_gt hC 70 dX3_timesOf_12 (by decide) (fun c12 => ?_) (fun c12 => ?_)
      · have h := ifp c12 h
        refine G_iload hC 5 4 rfl dX3_timesOf_70 ?_
        have h := Option.some.inj h
        subst h
        exact Kr _ _ _ _ (nar_i _) ⟨rfl, rfl⟩ dX3_timesOf_72
      have h := ifn c12 h
      refine G_iload hC 6 5 rfl dX3_timesOf_15 ?_
      refine G_bipush hC (v := 12) (by decide) dX3_timesOf_17 ?_
      refine G_icmp_ge hC 70 dX3_timesOf_19 (by decide) (fun c19 => ?_) (fun c19 => ?_)
      · have h := ifp c19 h
        refine G_iload hC 5 4 rfl dX3_timesOf_70 ?_
        have h := Option.some.inj h
        subst h
        exact Kr _ _ _ _ (nar_i _) ⟨rfl, rfl⟩ dX3_timesOf_72
      have h := ifn c19 h
      refine G_aload_n hC 0 0 rfl rfl dX3_timesOf_22 ?_
      refine G_get hC inX3 98 (by omega) (v := .int nlearnt) e_night rfl 1 (by decide) m17 rfl rfl dX3_timesOf_23 ?_
      refine G_iload hC 6 5 rfl dX3_timesOf_26 ?_
      obtain ⟨q28, h28, h⟩ := bnd h
      refine G_cNi (st := []) hC _ (c_X10_isIn  l  h28) ⟨va_cnB 2 hC.hts gX3_timesOf_X10_isIn_n21 rfl rfl rfl (hC.2.2.2.1 ("TongueTip$Night", 21, yX10_isIn, "TongueTip") (List.mem_of_getElem? (i := 3) rfl)) (hC.hts _ zi_X10_isIn) (by decide +kernel) ⟨Nat.le_of_ble_eq_true rfl, Nat.le_of_ble_eq_true rfl⟩, hC.hts _ zs_X10_isIn, trivial⟩ rfl (Nat.le_of_ble_eq_true rfl) (Nat.zero_le _) (Nat.zero_le _) rfl dX3_timesOf_28 (fun r28 enx hw => ?_)
      obtain ⟨rfl, rfl⟩ := hw
      refine G_if_eq hC 46 dX3_timesOf_31 (by decide) (fun c31 => ?_) (fun c31 => ?_)
      · have h := ifp c31 h
        refine G_iconst hC (v := 0) (by decide) dX3_timesOf_46 ?_
        refine G_lv [0, 1, 2, 3, 5] rfl ?_
        exact hB47 _ _ _ _ h
      have h := ifn c31 h
      refine G_aload_n hC 0 0 rfl rfl dX3_timesOf_34 ?_
      refine G_aload_n hC 1 1 rfl rfl dX3_timesOf_35 ?_
      refine G_iload hC 6 5 rfl dX3_timesOf_36 ?_
      refine G_iload hC 4 3 rfl dX3_timesOf_38 ?_
      obtain ⟨q40, h40, h⟩ := bnd h
      refine G_cVi (st := []) hC _ 98 (by omega) (c_X3_fewestTimes  l (by omega) e_night e_nmostarr H_now h40) (cwV 3 hC.hts gX3_timesOf_X3_fewestTimes rfl rfl rfl (by decide +kernel) ⟨Nat.le_of_ble_eq_true rfl, Nat.le_of_ble_eq_true rfl⟩) e_night rfl rfl (Nat.le_of_ble_eq_true rfl) (Nat.zero_le _) (Nat.zero_le _) rfl dX3_timesOf_40 (fun r40 enx hw => ?_)
      obtain ⟨rfl, rfl⟩ := hw
      refine G_goto hC 47 dX3_timesOf_43 (by decide) ?_
      refine G_lv [0, 1, 2, 3, 5] rfl ?_
      exact hB47 _ _ _ _ h
  unfold f_X3_timesOf at h
  refine G_iload_n hC 2 2 rfl rfl dX3_timesOf_0 ?_
  refine G_istore hC 4 [(4, .int x2), (0, .ref (ad 98)), (1, .ref (ad 1)), (2, .int x2), (3, .int x3)] (by decide) rfl dX3_timesOf_1 ?_
  refine G_iconst hC (v := 0) (by decide) dX3_timesOf_3 ?_
  refine G_istore hC 5 [(5, .int (0 : Int32)), (4, .int x2), (0, .ref (ad 98)), (1, .ref (ad 1)), (2, .int x2), (3, .int x3)] (by decide) rfl dX3_timesOf_4 ?_
  refine G_iconst hC (v := 0) (by decide) dX3_timesOf_6 ?_
  refine G_istore hC 6 [(6, .int (0 : Int32)), (5, .int (0 : Int32)), (4, .int x2), (0, .ref (ad 98)), (1, .ref (ad 1)), (2, .int x2), (3, .int x3)] (by decide) rfl dX3_timesOf_7 ?_
  refine G_lv [3, 4, 6, 2, 1, 0] rfl ?_
  exact hL9 FU _ _ _ _ h
def f_X3_sayTimes_B67 (now : HallV) (rL22 : (Nat → Int32) → Int32 → Int32 → Int32 → Int32 → Int32 → Option ((Nat → Int32))) (nmost : Nat → Int32) (x2 : Int32) (x4 : Int32) (x5 : Int32) (x6 : Int32) (x7 : Int32) : Option ((Nat → Int32)) := rL22 nmost x2 x4 x5 x6 (x7 + (1 : Int32))
def f_X3_sayTimes_L22 (now : HallV)  : Nat → (Nat → Int32) → Int32 → Int32 → Int32 → Int32 → Int32 → Option ((Nat → Int32))
  | 0, _, _, _, _, _, _ => none
  | fu + 1, nmost, x2, x4, x5, x6, x7 => if x4 < x7 then (some nmost) else (Option.bind (f_X3_mostFrom nmost (x2 + (1 : Int32)) (x7 - x6)) (fun q40 => Option.bind (f_X3_mostFrom nmost x2 x7) (fun q52 => if x5 + q40 ≤ q52 then (f_X3_sayTimes_B67 now (f_X3_sayTimes_L22 now fu) nmost x2 x4 x5 x6 x7) else (Option.bind (f_X3_setMost nmost x2 x7 (x5 + q40)) (fun q64 => f_X3_sayTimes_B67 now (f_X3_sayTimes_L22 now fu) q64 x2 x4 x5 x6 x7)))))
def f_X3_sayTimes (now : HallV) (nmost : Nat → Int32) (x2 : Int32) (x3 : Int32) (x4 : Int32) : Option ((Nat → Int32)) := Option.bind (f_X3_leftOf now x2 x3) (fun q3 => Option.bind (f_X1_partOf now x2 (1 : Int32)) (fun q12 => f_X3_sayTimes_L22 now FU nmost x2 x4 q3 (x3 * q12) (x3 * q12)))
set_option maxHeartbeats 4000000 in
set_option maxRecDepth 100000 in
theorem c_X3_sayTimes {D : va_G} {cs : Nat → ClassId} {sa : Nat → Nat} {n : Nat} {ad : Nat → Nat} {A : Nat → Prop} (l : Launch) {en : Nat → va_E}  {now : HallV} {nmost : Nat → Int32} {nlearnt : Int32} {x2 : Int32} {x3 : Int32} {x4 : Int32}  {q : (Nat → Int32)} (hn : 110 ≤ n) (e_night : en 98 = .inr (1, [.ref (ad 99), .int nlearnt])) (e_nmostarr : en 99 = .inl (cs 1, 1300, .inl (nmost))) (H_now : Hall cs ad en 1 now) (h : f_X3_sayTimes now nmost x2 x3 x4 = some q) : Met l yX3_sayTimes wsX3_sayTimes { frames := 4, cells := 0, slots := 0, locals := 93 } (va_Pc [.ref (ad 98), .ref (ad 1), .int x2, .int x3, .int x4] (Wd D cs sa n ad A en)) (va_Qv (fun u => u 99 = .inl (cs 1, 1300, .inl (q)) ∧ (∀ j, (j < 99 ∨ 100 ≤ j) → u j = en j)) (Wd D cs sa n ad A) A) 0 0 A := by
  refine G_startV cX3_sayTimes 9 [(0, .ref (ad 98)), (1, .ref (ad 1)), (2, .int x2), (3, .int x3), (4, .int x4)] (by decide) rfl (Nat.le_of_ble_eq_true rfl) rfl ?_
  intro p e s m args below meth c Q hC hnm Kr
  have hL22 : ∀ (fu22 : Nat), ∀ (en1 : Nat → va_E) (nmost : Nat → Int32) (x2 : Int32) (x4 : Int32) (x5 : Int32) (x6 : Int32) (x7 : Int32), en1 98 = .inr (1, [.ref (ad 99), .int nlearnt]) → en1 99 = .inl (cs 1, 1300, .inl (nmost)) → Hall cs ad en1 1 now → (∀ j, (j < 99 ∨ 100 ≤ j) → en1 j = en j) → f_X3_sayTimes_L22 now fu22 nmost x2 x4 x5 x6 x7 = some q → G p l e ({ frames := 4, cells := 0, slots := 0, locals := 93 } : Room) s m args below meth c D n ad A 9 0 0 Q en1 22 [(0, .ref (ad 98)), (2, .int x2), (4, .int x4), (5, .int x5), (6, .int x6), (7, .int x7)] [] := by
    intro fu22
    induction fu22 with
    | zero =>
      intro en1 nmost x2 x4 x5 x6 x7 e_night e_nmostarr H_now hfr h
      rw [f_X3_sayTimes_L22] at h
      cases h
    | succ fu22 ih22 =>
      have hB67 : ∀ (en1 : Nat → va_E) (nmost : Nat → Int32) (x2 : Int32) (x4 : Int32) (x5 : Int32) (x6 : Int32) (x7 : Int32), en1 98 = .inr (1, [.ref (ad 99), .int nlearnt]) → en1 99 = .inl (cs 1, 1300, .inl (nmost)) → Hall cs ad en1 1 now → (∀ j, (j < 99 ∨ 100 ≤ j) → en1 j = en j) → f_X3_sayTimes_B67 now (f_X3_sayTimes_L22 now fu22) nmost x2 x4 x5 x6 x7 = some q → G p l e ({ frames := 4, cells := 0, slots := 0, locals := 93 } : Room) s m args below meth c D n ad A 9 0 0 Q en1 67 [(0, .ref (ad 98)), (2, .int x2), (4, .int x4), (5, .int x5), (6, .int x6), (7, .int x7)] [] := by
        intro en1 nmost x2 x4 x5 x6 x7 e_night e_nmostarr H_now hfr h
        unfold f_X3_sayTimes_B67 at h
        refine G_iinc hC 7 5 [(7, .int (x7 + (1 : Int32))), (0, .ref (ad 98)), (2, .int x2), (4, .int x4), (5, .int x5), (6, .int x6)] rfl rfl (by decide) rfl dX3_sayTimes_67 ?_
        refine G_goto hC 22 dX3_sayTimes_70 (by decide) ?_
        refine G_lv [1, 2, 3, 4, 5, 0] rfl ?_
        exact ih22 _ _ _ _ _ _ _ e_night e_nmostarr H_now hfr h
      intro en1 nmost x2 x4 x5 x6 x7 e_night e_nmostarr H_now hfr h
      rw [f_X3_sayTimes_L22] at h
      refine G_iload hC 7 5 rfl dX3_sayTimes_22 ?_
      refine G_iload hC 4 2 rfl dX3_sayTimes_24 ?_
      refine G_icmp_gt hC 73 dX3_sayTimes_26 (by decide) (fun c26 => ?_) (fun c26 => ?_)
      · have h := ifp c26 h
        have h := Option.some.inj h
        subst h
        exact Kr _ _ _ ⟨e_nmostarr, hfr⟩ dX3_sayTimes_73
      have h := ifn c26 h
      refine G_iload hC 5 3 rfl dX3_sayTimes_29 ?_
      refine G_aload_n hC 0 0 rfl rfl dX3_sayTimes_31 ?_
      refine G_iload_n hC 2 1 rfl rfl dX3_sayTimes_32 ?_
      refine G_iconst hC (v := 1) (by decide) dX3_sayTimes_33 ?_
      refine G_iadd hC dX3_sayTimes_34 ?_
      refine G_iload hC 7 5 rfl dX3_sayTimes_35 ?_
      refine G_iload hC 6 4 rfl dX3_sayTimes_37 ?_
      refine G_isub hC dX3_sayTimes_39 ?_
      obtain ⟨q40, h40, h⟩ := bnd h
      refine G_cVi (st := [.int x5]) hC _ 98 (by omega) (c_X3_mostFrom  l (by omega) e_night e_nmostarr h40) (cwV 2 hC.hts gX3_sayTimes_X3_mostFrom rfl rfl rfl (by decide +kernel) ⟨Nat.le_of_ble_eq_true rfl, Nat.le_of_ble_eq_true rfl⟩) e_night rfl rfl (Nat.le_of_ble_eq_true rfl) (Nat.zero_le _) (Nat.zero_le _) rfl dX3_sayTimes_40 (fun r40 enx hw => ?_)
      obtain ⟨rfl, rfl⟩ := hw
      refine G_iadd hC dX3_sayTimes_43 ?_
      refine G_istore hC 8 [(8, .int (x5 + q40)), (0, .ref (ad 98)), (2, .int x2), (4, .int x4), (5, .int x5), (6, .int x6), (7, .int x7)] (by decide) rfl dX3_sayTimes_44 ?_
      refine G_iload hC 8 0 rfl dX3_sayTimes_46 ?_
      refine G_aload_n hC 0 1 rfl rfl dX3_sayTimes_48 ?_
      refine G_iload_n hC 2 2 rfl rfl dX3_sayTimes_49 ?_
      refine G_iload hC 7 6 rfl dX3_sayTimes_50 ?_
      obtain ⟨q52, h52, h⟩ := bnd h
      refine G_cVi (st := [.int (x5 + q40)]) hC _ 98 (by omega) (c_X3_mostFrom  l (by omega) e_night e_nmostarr h52) (cwV 2 hC.hts gX3_sayTimes_X3_mostFrom rfl rfl rfl (by decide +kernel) ⟨Nat.le_of_ble_eq_true rfl, Nat.le_of_ble_eq_true rfl⟩) e_night rfl rfl (Nat.le_of_ble_eq_true rfl) (Nat.zero_le _) (Nat.zero_le _) rfl dX3_sayTimes_52 (fun r52 enx hw => ?_)
      obtain ⟨rfl, rfl⟩ := hw
      refine G_icmp_le hC 67 dX3_sayTimes_55 (by decide) (fun c55 => ?_) (fun c55 => ?_)
      · have h := ifp c55 h
        refine G_lv [1, 2, 3, 4, 5, 6] rfl ?_
        exact hB67 _ _ _ _ _ _ _ e_night e_nmostarr H_now hfr h
      have h := ifn c55 h
      refine G_aload_n hC 0 1 rfl rfl dX3_sayTimes_58 ?_
      refine G_iload_n hC 2 2 rfl rfl dX3_sayTimes_59 ?_
      refine G_iload hC 7 6 rfl dX3_sayTimes_60 ?_
      refine G_iload hC 8 0 rfl dX3_sayTimes_62 ?_
      obtain ⟨q64, h64, h⟩ := bnd h
      refine G_cVv (st := []) hC _ 98 (by omega) (c_X3_setMost  l (by omega) e_night e_nmostarr h64) (cwV 3 hC.hts gX3_sayTimes_X3_setMost rfl rfl rfl (by decide +kernel) ⟨Nat.le_of_ble_eq_true rfl, Nat.le_of_ble_eq_true rfl⟩) e_night rfl rfl (Nat.le_of_ble_eq_true rfl) (Nat.zero_le _) (Nat.zero_le _) rfl dX3_sayTimes_64 (fun en2 hw => ?_)
      obtain ⟨e_nmostarr, fr⟩ := hw
      have e_night := (fr 98 (by omega)).trans e_night
      have H_now := H_now.fr (fun j h1 h2 => fr j (by omega))
      have hfr : ∀ j, (j < 99 ∨ 100 ≤ j) → en2 j = en j := fun j o0 => (fr j (by omega)).trans (hfr j o0)
      refine G_lv [1, 2, 3, 4, 5, 6] rfl ?_
      exact hB67 _ _ _ _ _ _ _ e_night e_nmostarr H_now hfr h
  unfold f_X3_sayTimes at h
  have hfr : ∀ j, (j < 99 ∨ 100 ≤ j) → en j = en j := fun _ _ => rfl
  refine G_aload_n hC 1 1 rfl rfl dX3_sayTimes_0 ?_
  refine G_iload_n hC 2 2 rfl rfl dX3_sayTimes_1 ?_
  refine G_iload_n hC 3 3 rfl rfl dX3_sayTimes_2 ?_
  obtain ⟨q3, h3, h⟩ := bnd h
  refine G_cSi (st := []) hC _ (c_X3_leftOf  l (by omega) H_now h3) (va_cwS 3 hC.hts gX3_sayTimes_X3_leftOf rfl rfl rfl (by decide +kernel) ⟨Nat.le_of_ble_eq_true rfl, Nat.le_of_ble_eq_true rfl⟩) rfl (Nat.le_of_ble_eq_true rfl) (Nat.zero_le _) (Nat.zero_le _) rfl dX3_sayTimes_3 (fun r3 enx hw => ?_)
  obtain ⟨rfl, rfl⟩ := hw
  refine G_istore hC 5 [(5, .int q3), (0, .ref (ad 98)), (1, .ref (ad 1)), (2, .int x2), (3, .int x3), (4, .int x4)] (by decide) rfl dX3_sayTimes_6 ?_
  refine G_iload_n hC 3 4 rfl rfl dX3_sayTimes_8 ?_
  refine G_aload_n hC 1 2 rfl rfl dX3_sayTimes_9 ?_
  refine G_iload_n hC 2 3 rfl rfl dX3_sayTimes_10 ?_
  refine G_iconst hC (v := 1) (by decide) dX3_sayTimes_11 ?_
  obtain ⟨q12, h12, h⟩ := bnd h
  refine G_cVi (st := [.int x3]) hC _ 1 (by omega) (c_X1_partOf (kk := 1) l (by omega) H_now h12) (cwV 2 hC.hts gX3_sayTimes_X1_partOf rfl rfl rfl (by decide +kernel) ⟨Nat.le_of_ble_eq_true rfl, Nat.le_of_ble_eq_true rfl⟩) (H_now 0 (by decide)) rfl rfl (Nat.le_of_ble_eq_true rfl) (Nat.zero_le _) (Nat.zero_le _) rfl dX3_sayTimes_12 (fun r12 enx hw => ?_)
  obtain ⟨rfl, rfl⟩ := hw
  refine G_imul hC dX3_sayTimes_15 ?_
  refine G_istore hC 6 [(6, .int (x3 * q12)), (5, .int q3), (0, .ref (ad 98)), (1, .ref (ad 1)), (2, .int x2), (3, .int x3), (4, .int x4)] (by decide) rfl dX3_sayTimes_16 ?_
  refine G_iload hC 6 0 rfl dX3_sayTimes_18 ?_
  refine G_istore hC 7 [(7, .int (x3 * q12)), (6, .int (x3 * q12)), (5, .int q3), (0, .ref (ad 98)), (1, .ref (ad 1)), (2, .int x2), (3, .int x3), (4, .int x4)] (by decide) rfl dX3_sayTimes_20 ?_
  refine G_lv [3, 5, 7, 2, 1, 0] rfl ?_
  exact hL22 FU _ _ _ _ _ _ _ e_night e_nmostarr H_now hfr h
def f_X3_plan_B94 (now : HallV) (rL9 : (Nat → Int32) → Int32 → Int32 → Int32 → Int32 → Option ((Nat → Int32) × Int32)) (nmost : Nat → Int32) (nlearnt : Int32) (x2 : Int32) (x3 : Int32) (x4 : Int32) : Option ((Nat → Int32) × Int32) := rL9 nmost nlearnt x2 x3 (x4 + (-1 : Int32))
def f_X3_plan_L63 (now : HallV) (rL9 : (Nat → Int32) → Int32 → Int32 → Int32 → Int32 → Option ((Nat → Int32) × Int32)) : Nat → (Nat → Int32) → Int32 → Int32 → Int32 → Int32 → Int32 → Option ((Nat → Int32) × Int32)
  | 0, _, _, _, _, _, _ => none
  | fu + 1, nmost, nlearnt, x2, x3, x4, x5 => if (5 : Int32) < x5 then (f_X3_plan_B94 now rL9 nmost nlearnt x2 x3 x4) else (Option.bind (f_X10_isIn x2 x4) (fun q72 => if q72 = 0 then (f_X3_plan_B94 now rL9 nmost nlearnt x2 x3 x4) else (Option.bind (f_X3_sayTimes now nmost x4 x5 x3) (fun q85 => f_X3_plan_L63 now rL9 fu q85 nlearnt x2 x3 x4 (x5 + (1 : Int32))))))
def f_X3_plan_B51 (now : HallV) (rL9 : (Nat → Int32) → Int32 → Int32 → Int32 → Int32 → Option ((Nat → Int32) × Int32)) (rL17 : (Nat → Int32) → Int32 → Int32 → Int32 → Int32 → Int32 → Option ((Nat → Int32) × Int32)) (nmost : Nat → Int32) (nlearnt : Int32) (x2 : Int32) (x3 : Int32) (x4 : Int32) (x5 : Int32) (s1 : Int32) (s2 : Int32) (s3 : Int32) : Option ((Nat → Int32) × Int32) := Option.bind (f_X3_setMost nmost s1 s2 s3) (fun q51 => rL17 q51 nlearnt x2 x3 x4 (x5 + (1 : Int32)))
def f_X3_plan_L17 (now : HallV) (rL9 : (Nat → Int32) → Int32 → Int32 → Int32 → Int32 → Option ((Nat → Int32) × Int32)) : Nat → (Nat → Int32) → Int32 → Int32 → Int32 → Int32 → Int32 → Option ((Nat → Int32) × Int32)
  | 0, _, _, _, _, _, _ => none
  | fu + 1, nmost, nlearnt, x2, x3, x4, x5 => if x3 < x5 then (f_X3_plan_L63 now rL9 FU nmost nlearnt x2 x3 x4 (0 : Int32)) else (Option.bind (f_X10_isIn x2 x4) (fun q31 => if q31 = 0 then (Option.bind (f_X3_mostFrom nmost (x4 + (1 : Int32)) x5) (fun q48 => f_X3_plan_B51 now rL9 (f_X3_plan_L17 now rL9 fu) nmost nlearnt x2 x3 x4 x5 x4 x5 q48)) else (f_X3_plan_B51 now rL9 (f_X3_plan_L17 now rL9 fu) nmost nlearnt x2 x3 x4 x5 x4 x5 (0 : Int32))))
def f_X3_plan_L9 (now : HallV)  : Nat → (Nat → Int32) → Int32 → Int32 → Int32 → Int32 → Option ((Nat → Int32) × Int32)
  | 0, _, _, _, _, _ => none
  | fu + 1, nmost, nlearnt, x2, x3, x4 => if x4 < 0 then (some (nmost, nlearnt)) else (f_X3_plan_L17 now (f_X3_plan_L9 now fu) FU nmost nlearnt x2 x3 x4 (0 : Int32))
def f_X3_plan (now : HallV) (nmost : Nat → Int32) (nlearnt : Int32) (x2 : Int32) (x3 : Int32) : Option ((Nat → Int32) × Int32) := f_X3_plan_L9 now FU nmost x2 x2 x3 (11 : Int32)
set_option maxHeartbeats 4000000 in
set_option maxRecDepth 100000 in
theorem c_X3_plan {D : va_G} {cs : Nat → ClassId} {sa : Nat → Nat} {n : Nat} {ad : Nat → Nat} {A : Nat → Prop} (l : Launch) {en : Nat → va_E}  {now : HallV} {nmost : Nat → Int32} {nlearnt : Int32} {x2 : Int32} {x3 : Int32}  {q : (Nat → Int32) × Int32} (hn : 110 ≤ n) (e_night : en 98 = .inr (1, [.ref (ad 99), .int nlearnt])) (e_nmostarr : en 99 = .inl (cs 1, 1300, .inl (nmost))) (H_now : Hall cs ad en 1 now) (h : f_X3_plan now nmost nlearnt x2 x3 = some q) : Met l yX3_plan wsX3_plan { frames := 5, cells := 0, slots := 0, locals := 121 } (va_Pc [.ref (ad 98), .ref (ad 1), .int x2, .int x3] (Wd D cs sa n ad A en)) (va_Qv (fun u => u 98 = .inr (1, [.ref (ad 99), .int q.2]) ∧ u 99 = .inl (cs 1, 1300, .inl (q.1)) ∧ (∀ j, (j < 98 ∨ 99 ≤ j) → (j < 99 ∨ 100 ≤ j) → u j = en j)) (Wd D cs sa n ad A) A) 0 0 A := by
  refine G_startV cX3_plan 6 [(0, .ref (ad 98)), (1, .ref (ad 1)), (2, .int x2), (3, .int x3)] (by decide) rfl (Nat.le_of_ble_eq_true rfl) rfl ?_
  intro p e s m args below meth c Q hC hnm Kr
  have inX3 : ∀ w ∈ u_ws RX3 TX3 2, w ∈ wsX3_plan := by decide +kernel
  have m17 : Cond.fieldLink RX3 17 "TongueTip$Night" "learnt" "I" ∈ wsX3_plan := by decide +kernel
  have zi_X10_isIn : Cond.initialized RX10 ∈ wsX3_plan := by decide +kernel
  have zs_X10_isIn : Cond.static yX10_isIn ∈ wsX3_plan := by decide +kernel
  have hL9 : ∀ (fu9 : Nat), ∀ (en1 : Nat → va_E) (nmost : Nat → Int32) (nlearnt : Int32) (x2 : Int32) (x3 : Int32) (x4 : Int32), en1 98 = .inr (1, [.ref (ad 99), .int nlearnt]) → en1 99 = .inl (cs 1, 1300, .inl (nmost)) → Hall cs ad en1 1 now → (∀ j, (j < 98 ∨ 99 ≤ j) → (j < 99 ∨ 100 ≤ j) → en1 j = en j) → f_X3_plan_L9 now fu9 nmost nlearnt x2 x3 x4 = some q → G p l e ({ frames := 5, cells := 0, slots := 0, locals := 121 } : Room) s m args below meth c D n ad A 6 0 0 Q en1 9 [(0, .ref (ad 98)), (1, .ref (ad 1)), (2, .int x2), (3, .int x3), (4, .int x4)] [] := by
    intro fu9
    induction fu9 with
    | zero =>
      intro en1 nmost nlearnt x2 x3 x4 e_night e_nmostarr H_now hfr h
      rw [f_X3_plan_L9] at h
      cases h
    | succ fu9 ih9 =>
      have hB94 : ∀ (en1 : Nat → va_E) (nmost : Nat → Int32) (nlearnt : Int32) (x2 : Int32) (x3 : Int32) (x4 : Int32), en1 98 = .inr (1, [.ref (ad 99), .int nlearnt]) → en1 99 = .inl (cs 1, 1300, .inl (nmost)) → Hall cs ad en1 1 now → (∀ j, (j < 98 ∨ 99 ≤ j) → (j < 99 ∨ 100 ≤ j) → en1 j = en j) → f_X3_plan_B94 now (f_X3_plan_L9 now fu9) nmost nlearnt x2 x3 x4 = some q → G p l e ({ frames := 5, cells := 0, slots := 0, locals := 121 } : Room) s m args below meth c D n ad A 6 0 0 Q en1 94 [(0, .ref (ad 98)), (1, .ref (ad 1)), (2, .int x2), (3, .int x3), (4, .int x4)] [] := by
        intro en1 nmost nlearnt x2 x3 x4 e_night e_nmostarr H_now hfr h
        unfold f_X3_plan_B94 at h
        refine G_iinc hC 4 4 [(4, .int (x4 + (-1 : Int32))), (0, .ref (ad 98)), (1, .ref (ad 1)), (2, .int x2), (3, .int x3)] rfl (congrArg (fun z => x4 + z) (by decide : Int32.ofInt (-1) = (-1 : Int32))) (by decide) rfl dX3_plan_94 ?_
        refine G_goto hC 9 dX3_plan_97 (by decide) ?_
        refine G_lv [1, 2, 3, 4, 0] rfl ?_
        exact ih9 _ _ _ _ _ _ e_night e_nmostarr H_now hfr h
      have hL63 : ∀ (fu63 : Nat), ∀ (en1 : Nat → va_E) (nmost : Nat → Int32) (nlearnt : Int32) (x2 : Int32) (x3 : Int32) (x4 : Int32) (x5 : Int32), en1 98 = .inr (1, [.ref (ad 99), .int nlearnt]) → en1 99 = .inl (cs 1, 1300, .inl (nmost)) → Hall cs ad en1 1 now → (∀ j, (j < 98 ∨ 99 ≤ j) → (j < 99 ∨ 100 ≤ j) → en1 j = en j) → f_X3_plan_L63 now (f_X3_plan_L9 now fu9) fu63 nmost nlearnt x2 x3 x4 x5 = some q → G p l e ({ frames := 5, cells := 0, slots := 0, locals := 121 } : Room) s m args below meth c D n ad A 6 0 0 Q en1 63 [(0, .ref (ad 98)), (1, .ref (ad 1)), (2, .int x2), (3, .int x3), (4, .int x4), (5, .int x5)] [] := by
        intro fu63
        induction fu63 with
        | zero =>
          intro en1 nmost nlearnt x2 x3 x4 x5 e_night e_nmostarr H_now hfr h
          rw [f_X3_plan_L63] at h
          cases h
        | succ fu63 ih63 =>
          intro en1 nmost nlearnt x2 x3 x4 x5 e_night e_nmostarr H_now hfr h
          rw [f_X3_plan_L63] at h
          refine G_iload hC 5 5 rfl dX3_plan_63 ?_
          refine G_iconst hC (v := 5) (by decide) dX3_plan_65 ?_
          refine G_icmp_gt hC 94 dX3_plan_66 (by decide) (fun c66 => ?_) (fun c66 => ?_)
          · have h := ifp c66 h
            refine G_lv [0, 1, 2, 3, 4] rfl ?_
            exact hB94 _ _ _ _ _ _ e_night e_nmostarr H_now hfr h
          have h := ifn c66 h
          refine G_iload_n hC 2 2 rfl rfl dX3_plan_69 ?_
          refine G_iload hC 4 4 rfl dX3_plan_70 ?_
          obtain ⟨q72, h72, h⟩ := bnd h
          refine G_cNi (st := []) hC _ (c_X10_isIn  l  h72) ⟨va_cnB 2 hC.hts gX3_plan_X10_isIn_n21 rfl rfl rfl (hC.2.2.2.1 ("TongueTip$Night", 21, yX10_isIn, "TongueTip") (List.mem_of_getElem? (i := 3) rfl)) (hC.hts _ zi_X10_isIn) (by decide +kernel) ⟨Nat.le_of_ble_eq_true rfl, Nat.le_of_ble_eq_true rfl⟩, hC.hts _ zs_X10_isIn, trivial⟩ rfl (Nat.le_of_ble_eq_true rfl) (Nat.zero_le _) (Nat.zero_le _) rfl dX3_plan_72 (fun r72 enx hw => ?_)
          obtain ⟨rfl, rfl⟩ := hw
          refine G_if_eq hC 94 dX3_plan_75 (by decide) (fun c75 => ?_) (fun c75 => ?_)
          · have h := ifp c75 h
            refine G_lv [0, 1, 2, 3, 4] rfl ?_
            exact hB94 _ _ _ _ _ _ e_night e_nmostarr H_now hfr h
          have h := ifn c75 h
          refine G_aload_n hC 0 0 rfl rfl dX3_plan_78 ?_
          refine G_aload_n hC 1 1 rfl rfl dX3_plan_79 ?_
          refine G_iload hC 4 4 rfl dX3_plan_80 ?_
          refine G_iload hC 5 5 rfl dX3_plan_82 ?_
          refine G_iload_n hC 3 3 rfl rfl dX3_plan_84 ?_
          obtain ⟨q85, h85, h⟩ := bnd h
          refine G_cVv (st := []) hC _ 98 (by omega) (c_X3_sayTimes  l (by omega) e_night e_nmostarr H_now h85) (cwV 4 hC.hts gX3_plan_X3_sayTimes rfl rfl rfl (by decide +kernel) ⟨Nat.le_of_ble_eq_true rfl, Nat.le_of_ble_eq_true rfl⟩) e_night rfl rfl (Nat.le_of_ble_eq_true rfl) (Nat.zero_le _) (Nat.zero_le _) rfl dX3_plan_85 (fun en2 hw => ?_)
          obtain ⟨e_nmostarr, fr⟩ := hw
          have e_night := (fr 98 (by omega)).trans e_night
          have H_now := H_now.fr (fun j h1 h2 => fr j (by omega))
          have hfr : ∀ j, (j < 98 ∨ 99 ≤ j) → (j < 99 ∨ 100 ≤ j) → en2 j = en j := fun j o0 o1 => (fr j (by omega)).trans (hfr j o0 o1)
          refine G_iinc hC 5 5 [(5, .int (x5 + (1 : Int32))), (0, .ref (ad 98)), (1, .ref (ad 1)), (2, .int x2), (3, .int x3), (4, .int x4)] rfl rfl (by decide) rfl dX3_plan_88 ?_
          refine G_goto hC 63 dX3_plan_91 (by decide) ?_
          refine G_lv [1, 2, 3, 4, 5, 0] rfl ?_
          exact ih63 _ _ _ _ _ _ _ e_night e_nmostarr H_now hfr h
      have hL17 : ∀ (fu17 : Nat), ∀ (en1 : Nat → va_E) (nmost : Nat → Int32) (nlearnt : Int32) (x2 : Int32) (x3 : Int32) (x4 : Int32) (x5 : Int32), en1 98 = .inr (1, [.ref (ad 99), .int nlearnt]) → en1 99 = .inl (cs 1, 1300, .inl (nmost)) → Hall cs ad en1 1 now → (∀ j, (j < 98 ∨ 99 ≤ j) → (j < 99 ∨ 100 ≤ j) → en1 j = en j) → f_X3_plan_L17 now (f_X3_plan_L9 now fu9) fu17 nmost nlearnt x2 x3 x4 x5 = some q → G p l e ({ frames := 5, cells := 0, slots := 0, locals := 121 } : Room) s m args below meth c D n ad A 6 0 0 Q en1 17 [(0, .ref (ad 98)), (1, .ref (ad 1)), (2, .int x2), (3, .int x3), (4, .int x4), (5, .int x5)] [] := by
        intro fu17
        induction fu17 with
        | zero =>
          intro en1 nmost nlearnt x2 x3 x4 x5 e_night e_nmostarr H_now hfr h
          rw [f_X3_plan_L17] at h
          cases h
        | succ fu17 ih17 =>
          have hB51 : ∀ (en1 : Nat → va_E) (nmost : Nat → Int32) (nlearnt : Int32) (x2 : Int32) (x3 : Int32) (x4 : Int32) (x5 : Int32) (s1 : Int32) (s2 : Int32) (s3 : Int32), en1 98 = .inr (1, [.ref (ad 99), .int nlearnt]) → en1 99 = .inl (cs 1, 1300, .inl (nmost)) → Hall cs ad en1 1 now → (∀ j, (j < 98 ∨ 99 ≤ j) → (j < 99 ∨ 100 ≤ j) → en1 j = en j) → f_X3_plan_B51 now (f_X3_plan_L9 now fu9) (f_X3_plan_L17 now (f_X3_plan_L9 now fu9) fu17) nmost nlearnt x2 x3 x4 x5 s1 s2 s3 = some q → G p l e ({ frames := 5, cells := 0, slots := 0, locals := 121 } : Room) s m args below meth c D n ad A 6 0 0 Q en1 51 [(0, .ref (ad 98)), (1, .ref (ad 1)), (2, .int x2), (3, .int x3), (4, .int x4), (5, .int x5)] [.int s3, .int s2, .int s1, .ref (ad 98)] := by
            intro en1 nmost nlearnt x2 x3 x4 x5 s1 s2 s3 e_night e_nmostarr H_now hfr h
            unfold f_X3_plan_B51 at h
            obtain ⟨q51, h51, h⟩ := bnd h
            refine G_cVv (st := []) hC _ 98 (by omega) (c_X3_setMost  l (by omega) e_night e_nmostarr h51) (cwV 3 hC.hts gX3_plan_X3_setMost rfl rfl rfl (by decide +kernel) ⟨Nat.le_of_ble_eq_true rfl, Nat.le_of_ble_eq_true rfl⟩) e_night rfl rfl (Nat.le_of_ble_eq_true rfl) (Nat.zero_le _) (Nat.zero_le _) rfl dX3_plan_51 (fun en2 hw => ?_)
            obtain ⟨e_nmostarr, fr⟩ := hw
            have e_night := (fr 98 (by omega)).trans e_night
            have H_now := H_now.fr (fun j h1 h2 => fr j (by omega))
            have hfr : ∀ j, (j < 98 ∨ 99 ≤ j) → (j < 99 ∨ 100 ≤ j) → en2 j = en j := fun j o0 o1 => (fr j (by omega)).trans (hfr j o0 o1)
            refine G_iinc hC 5 5 [(5, .int (x5 + (1 : Int32))), (0, .ref (ad 98)), (1, .ref (ad 1)), (2, .int x2), (3, .int x3), (4, .int x4)] rfl rfl (by decide) rfl dX3_plan_54 ?_
            refine G_goto hC 17 dX3_plan_57 (by decide) ?_
            refine G_lv [1, 2, 3, 4, 5, 0] rfl ?_
            exact ih17 _ _ _ _ _ _ _ e_night e_nmostarr H_now hfr h
          intro en1 nmost nlearnt x2 x3 x4 x5 e_night e_nmostarr H_now hfr h
          rw [f_X3_plan_L17] at h
          refine G_iload hC 5 5 rfl dX3_plan_17 ?_
          refine G_iload_n hC 3 3 rfl rfl dX3_plan_19 ?_
          refine G_icmp_gt hC 60 dX3_plan_20 (by decide) (fun c20 => ?_) (fun c20 => ?_)
          · have h := ifp c20 h
            refine G_iconst hC (v := 0) (by decide) dX3_plan_60 ?_
            refine G_istore hC 5 [(5, .int (0 : Int32)), (0, .ref (ad 98)), (1, .ref (ad 1)), (2, .int x2), (3, .int x3), (4, .int x4)] (by decide) rfl dX3_plan_61 ?_
            refine G_lv [1, 2, 3, 4, 5, 0] rfl ?_
            exact hL63 FU _ _ _ _ _ _ _ e_night e_nmostarr H_now hfr h
          have h := ifn c20 h
          refine G_aload_n hC 0 0 rfl rfl dX3_plan_23 ?_
          refine G_iload hC 4 4 rfl dX3_plan_24 ?_
          refine G_iload hC 5 5 rfl dX3_plan_26 ?_
          refine G_iload_n hC 2 2 rfl rfl dX3_plan_28 ?_
          refine G_iload hC 4 4 rfl dX3_plan_29 ?_
          obtain ⟨q31, h31, h⟩ := bnd h
          refine G_cNi (st := [.int x5, .int x4, .ref (ad 98)]) hC _ (c_X10_isIn  l  h31) ⟨va_cnB 2 hC.hts gX3_plan_X10_isIn_n21 rfl rfl rfl (hC.2.2.2.1 ("TongueTip$Night", 21, yX10_isIn, "TongueTip") (List.mem_of_getElem? (i := 3) rfl)) (hC.hts _ zi_X10_isIn) (by decide +kernel) ⟨Nat.le_of_ble_eq_true rfl, Nat.le_of_ble_eq_true rfl⟩, hC.hts _ zs_X10_isIn, trivial⟩ rfl (Nat.le_of_ble_eq_true rfl) (Nat.zero_le _) (Nat.zero_le _) rfl dX3_plan_31 (fun r31 enx hw => ?_)
          obtain ⟨rfl, rfl⟩ := hw
          refine G_if_eq hC 41 dX3_plan_34 (by decide) (fun c34 => ?_) (fun c34 => ?_)
          · have h := ifp c34 h
            refine G_aload_n hC 0 0 rfl rfl dX3_plan_41 ?_
            refine G_iload hC 4 4 rfl dX3_plan_42 ?_
            refine G_iconst hC (v := 1) (by decide) dX3_plan_44 ?_
            refine G_iadd hC dX3_plan_45 ?_
            refine G_iload hC 5 5 rfl dX3_plan_46 ?_
            obtain ⟨q48, h48, h⟩ := bnd h
            refine G_cVi (st := [.int x5, .int x4, .ref (ad 98)]) hC _ 98 (by omega) (c_X3_mostFrom  l (by omega) e_night e_nmostarr h48) (cwV 2 hC.hts gX3_plan_X3_mostFrom rfl rfl rfl (by decide +kernel) ⟨Nat.le_of_ble_eq_true rfl, Nat.le_of_ble_eq_true rfl⟩) e_night rfl rfl (Nat.le_of_ble_eq_true rfl) (Nat.zero_le _) (Nat.zero_le _) rfl dX3_plan_48 (fun r48 enx hw => ?_)
            obtain ⟨rfl, rfl⟩ := hw
            refine G_lv [0, 1, 2, 3, 4, 5] rfl ?_
            exact hB51 _ _ _ _ _ _ _ _ _ _ e_night e_nmostarr H_now hfr h
          have h := ifn c34 h
          refine G_iconst hC (v := 0) (by decide) dX3_plan_37 ?_
          refine G_goto hC 51 dX3_plan_38 (by decide) ?_
          refine G_lv [0, 1, 2, 3, 4, 5] rfl ?_
          exact hB51 _ _ _ _ _ _ _ _ _ _ e_night e_nmostarr H_now hfr h
      intro en1 nmost nlearnt x2 x3 x4 e_night e_nmostarr H_now hfr h
      rw [f_X3_plan_L9] at h
      refine G_iload hC 4 4 rfl dX3_plan_9 ?_
      refine G_if_lt hC 100 dX3_plan_11 (by decide) (fun c11 => ?_) (fun c11 => ?_)
      · have h := ifp c11 h
        have h := Option.some.inj h
        subst h
        exact Kr _ _ _ ⟨e_night, e_nmostarr, hfr⟩ dX3_plan_100
      have h := ifn c11 h
      refine G_iconst hC (v := 0) (by decide) dX3_plan_14 ?_
      refine G_istore hC 5 [(5, .int (0 : Int32)), (0, .ref (ad 98)), (1, .ref (ad 1)), (2, .int x2), (3, .int x3), (4, .int x4)] (by decide) rfl dX3_plan_15 ?_
      refine G_lv [1, 2, 3, 4, 5, 0] rfl ?_
      exact hL17 FU _ _ _ _ _ _ _ e_night e_nmostarr H_now hfr h
  unfold f_X3_plan at h
  have hfr : ∀ j, (j < 98 ∨ 99 ≤ j) → (j < 99 ∨ 100 ≤ j) → en j = en j := fun _ _ _ => rfl
  refine G_aload_n hC 0 0 rfl rfl dX3_plan_0 ?_
  refine G_iload_n hC 2 2 rfl rfl dX3_plan_1 ?_
  refine G_put hC inX3 tyX3 tyX3_ok nmX3 98 (by omega) e_night rfl 1 (by decide) m17 rfl rfl (ty := .int) rfl rfl rfl (Nat.le_of_ble_eq_true rfl) dX3_plan_2 (fun en2 e_night fr => ?_)
  have e_night : en2 98 = .inr (1, [.ref (ad 99), .int x2]) := e_night
  have e_nmostarr := (fr 99 (by omega)).trans e_nmostarr
  have H_now := H_now.fr (fun j h1 h2 => fr j (by omega))
  have hfr : ∀ j, (j < 98 ∨ 99 ≤ j) → (j < 99 ∨ 100 ≤ j) → en2 j = en j := fun j o0 o1 => (fr j (by omega)).trans (hfr j o0 o1)
  refine G_bipush hC (v := 11) (by decide) dX3_plan_5 ?_
  refine G_istore hC 4 [(4, .int (11 : Int32)), (0, .ref (ad 98)), (1, .ref (ad 1)), (2, .int x2), (3, .int x3)] (by decide) rfl dX3_plan_7 ?_
  refine G_lv [1, 2, 3, 4, 0] rfl ?_
  exact hL9 FU _ _ _ _ _ _ e_night e_nmostarr H_now hfr h
def f_X9_size (tlen : Int32)  : Option (Int32) := some tlen
set_option maxHeartbeats 4000000 in
set_option maxRecDepth 100000 in
theorem c_X9_size {D : va_G} {cs : Nat → ClassId} {sa : Nat → Nat} {n : Nat} {ad : Nat → Nat} {A : Nat → Prop} (l : Launch) {en : Nat → va_E}  {tlen : Int32}   {q : Int32} (hn : 110 ≤ n) (e_text : en 81 = .inr (6, [.ref (ad 82), .int tlen])) (h : f_X9_size tlen = some q) : Met l yX9_size wsX9_size { frames := 0, cells := 0, slots := 0, locals := 0 } (va_Pc [.ref (ad 81)] (Wd D cs sa n ad A en)) (va_Qi (fun r u => q = r ∧ en = u) (Wd D cs sa n ad A) A) 0 0 A := by
  refine G_startI cX9_size 1 [(0, .ref (ad 81))] (by decide) rfl (Nat.le_of_ble_eq_true rfl) rfl ?_
  intro p e s m args below meth c Q hC hnm Kr
  have inX9 : ∀ w ∈ u_ws RX9 TX9 2, w ∈ wsX9_size := by decide +kernel
  have m15 : Cond.fieldLink RX9 15 "TongueTip$Text" "length" "I" ∈ wsX9_size := by decide +kernel
  unfold f_X9_size at h
  refine G_aload_n hC 0 0 rfl rfl dX9_size_0 ?_
  refine G_get hC inX9 81 (by omega) (v := .int tlen) e_text rfl 1 (by decide) m15 rfl rfl dX9_size_1 ?_
  have h := Option.some.inj h
  subst h
  exact Kr _ _ _ _ (nar_i _) ⟨rfl, rfl⟩ dX9_size_4
def f_X9_append (tlen : Int32) (tby : Nat → Int32) (x1 : Int32) : Option (Int32 × (Nat → Int32)) := if tlen < 0 then (some (tlen, tby)) else (if Int32.ofNat 300 ≤ tlen then (some (tlen, tby)) else (if tlen < 0 ∨ 300 ≤ tlen.toNatClampNeg then none else (some (tlen + (1 : Int32), upd tby tlen.toNatClampNeg (vp_nar .byte x1)))))
set_option maxHeartbeats 4000000 in
set_option maxRecDepth 100000 in
theorem c_X9_append {D : va_G} {cs : Nat → ClassId} {sa : Nat → Nat} {n : Nat} {ad : Nat → Nat} {A : Nat → Prop} (l : Launch) {en : Nat → va_E}  {tlen : Int32} {tby : Nat → Int32} {x1 : Int32}  {q : Int32 × (Nat → Int32)} (hn : 110 ≤ n) (e_text : en 81 = .inr (6, [.ref (ad 82), .int tlen])) (e_tbytes : en 82 = .inl (cs 0, 300, .inl (tby))) (h : f_X9_append tlen tby x1 = some q) : Met l yX9_append wsX9_append { frames := 0, cells := 0, slots := 0, locals := 0 } (va_Pc [.ref (ad 81), .int x1] (Wd D cs sa n ad A en)) (va_Qv (fun u => u 81 = .inr (6, [.ref (ad 82), .int q.1]) ∧ u 82 = .inl (cs 0, 300, .inl (q.2)) ∧ (∀ j, (j < 81 ∨ 82 ≤ j) → (j < 82 ∨ 83 ≤ j) → u j = en j)) (Wd D cs sa n ad A) A) 0 0 A := by
  refine G_startV cX9_append 2 [(0, .ref (ad 81)), (1, .int x1)] (by decide) rfl (Nat.le_of_ble_eq_true rfl) rfl ?_
  intro p e s m args below meth c Q hC hnm Kr
  have inX9 : ∀ w ∈ u_ws RX9 TX9 2, w ∈ wsX9_append := by decide +kernel
  have m11 : Cond.fieldLink RX9 11 "TongueTip$Text" "bytes" "[B" ∈ wsX9_append := by decide +kernel
  have m15 : Cond.fieldLink RX9 15 "TongueTip$Text" "length" "I" ∈ wsX9_append := by decide +kernel
  unfold f_X9_append at h
  have hfr : ∀ j, (j < 81 ∨ 82 ≤ j) → (j < 82 ∨ 83 ≤ j) → en j = en j := fun _ _ _ => rfl
  refine G_aload_n hC 0 0 rfl rfl dX9_append_0 ?_
  refine G_get hC inX9 81 (by omega) (v := .int tlen) e_text rfl 1 (by decide) m15 rfl rfl dX9_append_1 ?_
  refine G_if_lt hC 39 dX9_append_4 (by decide) (fun c4 => ?_) (fun c4 => ?_)
  · have h := ifp c4 h
    have h := Option.some.inj h
    subst h
    exact Kr _ _ _ ⟨e_text, e_tbytes, hfr⟩ dX9_append_39
  have h := ifn c4 h
  refine G_aload_n hC 0 0 rfl rfl dX9_append_7 ?_
  refine G_get hC inX9 81 (by omega) (v := .int tlen) e_text rfl 1 (by decide) m15 rfl rfl dX9_append_8 ?_
  refine G_aload_n hC 0 0 rfl rfl dX9_append_11 ?_
  refine G_get hC inX9 81 (by omega) (v := .ref (ad 82)) e_text rfl 0 (by decide) m11 rfl rfl dX9_append_12 ?_
  refine G_alen hC 0 82 (by omega) e_tbytes rfl rfl dX9_append_15 ?_
  refine G_icmp_ge hC 39 dX9_append_16 (by decide) (fun c16 => ?_) (fun c16 => ?_)
  · have h := ifp c16 h
    have h := Option.some.inj h
    subst h
    exact Kr _ _ _ ⟨e_text, e_tbytes, hfr⟩ dX9_append_39
  have h := ifn c16 h
  refine G_aload_n hC 0 0 rfl rfl dX9_append_19 ?_
  refine G_get hC inX9 81 (by omega) (v := .ref (ad 82)) e_text rfl 0 (by decide) m11 rfl rfl dX9_append_20 ?_
  refine G_aload_n hC 0 0 rfl rfl dX9_append_23 ?_
  refine G_get hC inX9 81 (by omega) (v := .int tlen) e_text rfl 1 (by decide) m15 rfl rfl dX9_append_24 ?_
  refine G_iload_n hC 1 1 rfl rfl dX9_append_27 ?_
  obtain ⟨g28, h⟩ := asn h
  refine G_bast hC 82 (by omega) e_tbytes g28 dX9_append_28 (fun en2 e_tbytes fr => ?_)
  have e_tbytes : en2 82 = .inl (cs 0, 300, .inl (upd tby tlen.toNatClampNeg (vp_nar .byte x1))) := e_tbytes
  have e_text := (fr 81 (by omega)).trans e_text
  have hfr : ∀ j, (j < 81 ∨ 82 ≤ j) → (j < 82 ∨ 83 ≤ j) → en2 j = en j := fun j o0 o1 => (fr j (by omega)).trans (hfr j o0 o1)
  refine G_aload_n hC 0 0 rfl rfl dX9_append_29 ?_
  refine G_dup hC rfl dX9_append_30 ?_
  refine G_get hC inX9 81 (by omega) (v := .int tlen) e_text rfl 1 (by decide) m15 rfl rfl dX9_append_31 ?_
  refine G_iconst hC (v := 1) (by decide) dX9_append_34 ?_
  refine G_iadd hC dX9_append_35 ?_
  refine G_put hC inX9 tyX9 tyX9_ok nmX9 81 (by omega) e_text rfl 1 (by decide) m15 rfl rfl (ty := .int) rfl rfl rfl (Nat.le_of_ble_eq_true rfl) dX9_append_36 (fun en3 e_text fr => ?_)
  have e_text : en3 81 = .inr (6, [.ref (ad 82), .int (tlen + (1 : Int32))]) := e_text
  have e_tbytes := (fr 82 (by omega)).trans e_tbytes
  have hfr : ∀ j, (j < 81 ∨ 82 ≤ j) → (j < 82 ∨ 83 ≤ j) → en3 j = en j := fun j o0 o1 => (fr j (by omega)).trans (hfr j o0 o1)
  have h := Option.some.inj h
  subst h
  exact Kr _ _ _ ⟨e_text, e_tbytes, hfr⟩ dX9_append_39
def f_X9_add_L35   : Nat → Int32 → (Nat → Int32) → Int64 → Int32 → Option (Int32 × Int32 × (Nat → Int32))
  | 0, _, _, _, _ => none
  | fu + 1, tlen, tby, x1, x4 => if x4 < 0 then (some (tlen, tlen, tby)) else (Option.bind (f_X9_append tlen tby (((x1 >>> (((8 : Int32) * x4).toInt64 &&& (63 : Int64))).toInt32).toInt8.toInt32)) (fun q50 => f_X9_add_L35 fu q50.1 q50.2 x1 (x4 + (-1 : Int32))))
def f_X9_add (tlen : Int32) (tby : Nat → Int32) (x1 : Int64) (x3 : Int32) : Option (Int32 × Int32 × (Nat → Int32)) := Option.bind (f_X10_within x3 (1 : Int32) (8 : Int32)) (fun q4 => if q4 = 0 then (some ((-2 : Int32), tlen, tby)) else (if tlen + x3 ≤ Int32.ofNat 300 then (f_X9_add_L35 FU tlen tby x1 (x3 - (1 : Int32))) else (some ((-4 : Int32), tlen, tby))))
set_option maxHeartbeats 4000000 in
set_option maxRecDepth 100000 in
theorem c_X9_add {D : va_G} {cs : Nat → ClassId} {sa : Nat → Nat} {n : Nat} {ad : Nat → Nat} {A : Nat → Prop} (l : Launch) {en : Nat → va_E}  {tlen : Int32} {tby : Nat → Int32} {x1 : Int64} {x3 : Int32}  {q : Int32 × Int32 × (Nat → Int32)} (hn : 110 ≤ n) (e_text : en 81 = .inr (6, [.ref (ad 82), .int tlen])) (e_tbytes : en 82 = .inl (cs 0, 300, .inl (tby))) (h : f_X9_add tlen tby x1 x3 = some q) : Met l yX9_add wsX9_add { frames := 1, cells := 0, slots := 0, locals := 22 } (va_Pc [.ref (ad 81), .long x1, .int x3] (Wd D cs sa n ad A en)) (va_Qi (fun r u => q.1 = r ∧ u 81 = .inr (6, [.ref (ad 82), .int q.2.1]) ∧ u 82 = .inl (cs 0, 300, .inl (q.2.2)) ∧ (∀ j, (j < 81 ∨ 82 ≤ j) → (j < 82 ∨ 83 ≤ j) → u j = en j)) (Wd D cs sa n ad A) A) 0 0 A := by
  refine G_startI cX9_add 5 [(0, .ref (ad 81)), (1, .long x1), (3, .int x3)] (by decide) rfl (Nat.le_of_ble_eq_true rfl) rfl ?_
  intro p e s m args below meth c Q hC hnm Kr
  have inX9 : ∀ w ∈ u_ws RX9 TX9 2, w ∈ wsX9_add := by decide +kernel
  have m11 : Cond.fieldLink RX9 11 "TongueTip$Text" "bytes" "[B" ∈ wsX9_add := by decide +kernel
  have m15 : Cond.fieldLink RX9 15 "TongueTip$Text" "length" "I" ∈ wsX9_add := by decide +kernel
  have zi_X10_within : Cond.initialized RX10 ∈ wsX9_add := by decide +kernel
  have zs_X10_within : Cond.static yX10_within ∈ wsX9_add := by decide +kernel
  have hL35 : ∀ (fu35 : Nat), ∀ (en1 : Nat → va_E) (tlen : Int32) (tby : Nat → Int32) (x1 : Int64) (x4 : Int32), en1 81 = .inr (6, [.ref (ad 82), .int tlen]) → en1 82 = .inl (cs 0, 300, .inl (tby)) → (∀ j, (j < 81 ∨ 82 ≤ j) → (j < 82 ∨ 83 ≤ j) → en1 j = en j) → f_X9_add_L35 fu35 tlen tby x1 x4 = some q → G p l e ({ frames := 1, cells := 0, slots := 0, locals := 22 } : Room) s m args below meth c D n ad A 5 0 0 Q en1 35 [(0, .ref (ad 81)), (1, .long x1), (4, .int x4)] [] := by
    intro fu35
    induction fu35 with
    | zero =>
      intro en1 tlen tby x1 x4 e_text e_tbytes hfr h
      rw [f_X9_add_L35] at h
      cases h
    | succ fu35 ih35 =>
      intro en1 tlen tby x1 x4 e_text e_tbytes hfr h
      rw [f_X9_add_L35] at h
      refine G_iload hC 4 2 rfl dX9_add_35 ?_
      refine G_if_lt hC 59 dX9_add_37 (by decide) (fun c37 => ?_) (fun c37 => ?_)
      · have h := ifp c37 h
        refine G_aload_n hC 0 0 rfl rfl dX9_add_59 ?_
        refine G_get hC inX9 81 (by omega) (v := .int tlen) e_text rfl 1 (by decide) m15 rfl rfl dX9_add_60 ?_
        have h := Option.some.inj h
        subst h
        exact Kr _ _ _ _ (nar_i _) ⟨rfl, e_text, e_tbytes, hfr⟩ dX9_add_63
      have h := ifn c37 h
      refine G_aload_n hC 0 0 rfl rfl dX9_add_40 ?_
      refine G_lload_n hC 1 1 rfl rfl dX9_add_41 ?_
      refine G_bipush hC (v := 8) (by decide) dX9_add_42 ?_
      refine G_iload hC 4 2 rfl dX9_add_44 ?_
      refine G_imul hC dX9_add_46 ?_
      refine G_lshr hC dX9_add_47 ?_
      refine G_l2i hC dX9_add_48 ?_
      refine G_i2b hC dX9_add_49 ?_
      obtain ⟨q50, h50, h⟩ := bnd h
      refine G_cVv (st := []) hC _ 81 (by omega) (c_X9_append  l (by omega) e_text e_tbytes h50) (cwV 1 hC.hts gX9_add_X9_append rfl rfl rfl (by decide +kernel) ⟨Nat.le_of_ble_eq_true rfl, Nat.le_of_ble_eq_true rfl⟩) e_text rfl rfl (Nat.le_of_ble_eq_true rfl) (Nat.zero_le _) (Nat.zero_le _) rfl dX9_add_50 (fun en2 hw => ?_)
      obtain ⟨e_text, e_tbytes, fr⟩ := hw
      have hfr : ∀ j, (j < 81 ∨ 82 ≤ j) → (j < 82 ∨ 83 ≤ j) → en2 j = en j := fun j o0 o1 => (fr j (by omega) (by omega)).trans (hfr j o0 o1)
      refine G_iinc hC 4 2 [(4, .int (x4 + (-1 : Int32))), (0, .ref (ad 81)), (1, .long x1)] rfl (congrArg (fun z => x4 + z) (by decide : Int32.ofInt (-1) = (-1 : Int32))) (by decide) rfl dX9_add_53 ?_
      refine G_goto hC 35 dX9_add_56 (by decide) ?_
      refine G_lv [1, 2, 0] rfl ?_
      exact ih35 _ _ _ _ _ e_text e_tbytes hfr h
  unfold f_X9_add at h
  have hfr : ∀ j, (j < 81 ∨ 82 ≤ j) → (j < 82 ∨ 83 ≤ j) → en j = en j := fun _ _ _ => rfl
  refine G_iload_n hC 3 2 rfl rfl dX9_add_0 ?_
  refine G_iconst hC (v := 1) (by decide) dX9_add_1 ?_
  refine G_bipush hC (v := 8) (by decide) dX9_add_2 ?_
  obtain ⟨q4, h4, h⟩ := bnd h
  refine G_cNi (st := []) hC _ (c_X10_within  l  h4) ⟨va_cnB 3 hC.hts gX9_add_X10_within_n19 rfl rfl rfl (hC.2.2.2.1 ("TongueTip$Text", 19, yX10_within, "TongueTip") (List.mem_of_getElem? (i := 11) rfl)) (hC.hts _ zi_X10_within) (by decide +kernel) ⟨Nat.le_of_ble_eq_true rfl, Nat.le_of_ble_eq_true rfl⟩, hC.hts _ zs_X10_within, trivial⟩ rfl (Nat.le_of_ble_eq_true rfl) (Nat.zero_le _) (Nat.zero_le _) rfl dX9_add_4 (fun r4 enx hw => ?_)
  obtain ⟨rfl, rfl⟩ := hw
  refine G_if_ne hC 13 dX9_add_7 (by decide) (fun c7 => ?_) (fun c7 => ?_)
  · have h := ifn c7 h
    refine G_aload_n hC 0 0 rfl rfl dX9_add_13 ?_
    refine G_get hC inX9 81 (by omega) (v := .int tlen) e_text rfl 1 (by decide) m15 rfl rfl dX9_add_14 ?_
    refine G_iload_n hC 3 2 rfl rfl dX9_add_17 ?_
    refine G_iadd hC dX9_add_18 ?_
    refine G_aload_n hC 0 0 rfl rfl dX9_add_19 ?_
    refine G_get hC inX9 81 (by omega) (v := .ref (ad 82)) e_text rfl 0 (by decide) m11 rfl rfl dX9_add_20 ?_
    refine G_alen hC 0 82 (by omega) e_tbytes rfl rfl dX9_add_23 ?_
    refine G_icmp_le hC 30 dX9_add_24 (by decide) (fun c24 => ?_) (fun c24 => ?_)
    · have h := ifp c24 h
      refine G_iload_n hC 3 2 rfl rfl dX9_add_30 ?_
      refine G_iconst hC (v := 1) (by decide) dX9_add_31 ?_
      refine G_isub hC dX9_add_32 ?_
      refine G_istore hC 4 [(4, .int (x3 - (1 : Int32))), (0, .ref (ad 81)), (1, .long x1), (3, .int x3)] (by decide) rfl dX9_add_33 ?_
      refine G_lv [1, 2, 0] rfl ?_
      exact hL35 FU _ _ _ _ _ e_text e_tbytes hfr h
    have h := ifn c24 h
    refine G_bipush hC (v := (-4)) (by decide) dX9_add_27 ?_
    have h := Option.some.inj h
    subst h
    exact Kr _ _ _ _ (nar_i _) ⟨rfl, e_text, e_tbytes, hfr⟩ dX9_add_29
  have h := ifp c7 h
  refine G_bipush hC (v := (-2)) (by decide) dX9_add_10 ?_
  have h := Option.some.inj h
  subst h
  exact Kr _ _ _ _ (nar_i _) ⟨rfl, e_text, e_tbytes, hfr⟩ dX9_add_12
def f_X9_empty (tlen : Int32)  : Option (Int32 × Int32) := some (tlen, (0 : Int32))
set_option maxHeartbeats 4000000 in
set_option maxRecDepth 100000 in
theorem c_X9_empty {D : va_G} {cs : Nat → ClassId} {sa : Nat → Nat} {n : Nat} {ad : Nat → Nat} {A : Nat → Prop} (l : Launch) {en : Nat → va_E}  {tlen : Int32}   {q : Int32 × Int32} (hn : 110 ≤ n) (e_text : en 81 = .inr (6, [.ref (ad 82), .int tlen])) (h : f_X9_empty tlen = some q) : Met l yX9_empty wsX9_empty { frames := 0, cells := 0, slots := 0, locals := 0 } (va_Pc [.ref (ad 81)] (Wd D cs sa n ad A en)) (va_Qi (fun r u => q.1 = r ∧ u 81 = .inr (6, [.ref (ad 82), .int q.2]) ∧ (∀ j, (j < 81 ∨ 82 ≤ j) → u j = en j)) (Wd D cs sa n ad A) A) 0 0 A := by
  refine G_startI cX9_empty 2 [(0, .ref (ad 81))] (by decide) rfl (Nat.le_of_ble_eq_true rfl) rfl ?_
  intro p e s m args below meth c Q hC hnm Kr
  have inX9 : ∀ w ∈ u_ws RX9 TX9 2, w ∈ wsX9_empty := by decide +kernel
  have m15 : Cond.fieldLink RX9 15 "TongueTip$Text" "length" "I" ∈ wsX9_empty := by decide +kernel
  unfold f_X9_empty at h
  have hfr : ∀ j, (j < 81 ∨ 82 ≤ j) → en j = en j := fun _ _ => rfl
  refine G_aload_n hC 0 0 rfl rfl dX9_empty_0 ?_
  refine G_get hC inX9 81 (by omega) (v := .int tlen) e_text rfl 1 (by decide) m15 rfl rfl dX9_empty_1 ?_
  refine G_istore_n hC 1 [(1, .int tlen), (0, .ref (ad 81))] rfl (by decide) rfl dX9_empty_4 ?_
  refine G_aload_n hC 0 1 rfl rfl dX9_empty_5 ?_
  refine G_iconst hC (v := 0) (by decide) dX9_empty_6 ?_
  refine G_put hC inX9 tyX9 tyX9_ok nmX9 81 (by omega) e_text rfl 1 (by decide) m15 rfl rfl (ty := .int) rfl rfl rfl (Nat.le_of_ble_eq_true rfl) dX9_empty_7 (fun en2 e_text fr => ?_)
  have e_text : en2 81 = .inr (6, [.ref (ad 82), .int (0 : Int32)]) := e_text
  have hfr : ∀ j, (j < 81 ∨ 82 ≤ j) → en2 j = en j := fun j o0 => (fr j (by omega)).trans (hfr j o0)
  refine G_iload_n hC 1 0 rfl rfl dX9_empty_10 ?_
  have h := Option.some.inj h
  subst h
  exact Kr _ _ _ _ (nar_i _) ⟨rfl, e_text, hfr⟩ dX9_empty_11
def f_X9_byteAt (tlen : Int32) (tby : Nat → Int32) (x1 : Int32) : Option (Int32) := if x1 < 0 then (some (-1 : Int32)) else (if tlen ≤ x1 then (some (-1 : Int32)) else (if Int32.ofNat 300 ≤ x1 then (some (-1 : Int32)) else (if x1 < 0 ∨ 300 ≤ x1.toNatClampNeg then none else (some ((tby x1.toNatClampNeg) &&& (255 : Int32))))))
set_option maxHeartbeats 4000000 in
set_option maxRecDepth 100000 in
theorem c_X9_byteAt {D : va_G} {cs : Nat → ClassId} {sa : Nat → Nat} {n : Nat} {ad : Nat → Nat} {A : Nat → Prop} (l : Launch) {en : Nat → va_E}  {tlen : Int32} {tby : Nat → Int32} {x1 : Int32}  {q : Int32} (hn : 110 ≤ n) (e_text : en 81 = .inr (6, [.ref (ad 82), .int tlen])) (e_tbytes : en 82 = .inl (cs 0, 300, .inl (tby))) (h : f_X9_byteAt tlen tby x1 = some q) : Met l yX9_byteAt wsX9_byteAt { frames := 0, cells := 0, slots := 0, locals := 0 } (va_Pc [.ref (ad 81), .int x1] (Wd D cs sa n ad A en)) (va_Qi (fun r u => q = r ∧ en = u) (Wd D cs sa n ad A) A) 0 0 A := by
  refine G_startI cX9_byteAt 2 [(0, .ref (ad 81)), (1, .int x1)] (by decide) rfl (Nat.le_of_ble_eq_true rfl) rfl ?_
  intro p e s m args below meth c Q hC hnm Kr
  have inX9 : ∀ w ∈ u_ws RX9 TX9 2, w ∈ wsX9_byteAt := by decide +kernel
  have m11 : Cond.fieldLink RX9 11 "TongueTip$Text" "bytes" "[B" ∈ wsX9_byteAt := by decide +kernel
  have m15 : Cond.fieldLink RX9 15 "TongueTip$Text" "length" "I" ∈ wsX9_byteAt := by decide +kernel
  unfold f_X9_byteAt at h
  refine G_iload_n hC 1 1 rfl rfl dX9_byteAt_0 ?_
  refine G_if_lt hC 34 dX9_byteAt_1 (by decide) (fun c1 => ?_) (fun c1 => ?_)
  · have h := ifp c1 h
    refine G_iconst hC (v := (-1)) (by decide) dX9_byteAt_34 ?_
    have h := Option.some.inj h
    subst h
    exact Kr _ _ _ _ (nar_i _) ⟨rfl, rfl⟩ dX9_byteAt_35
  have h := ifn c1 h
  refine G_iload_n hC 1 1 rfl rfl dX9_byteAt_4 ?_
  refine G_aload_n hC 0 0 rfl rfl dX9_byteAt_5 ?_
  refine G_get hC inX9 81 (by omega) (v := .int tlen) e_text rfl 1 (by decide) m15 rfl rfl dX9_byteAt_6 ?_
  refine G_icmp_ge hC 34 dX9_byteAt_9 (by decide) (fun c9 => ?_) (fun c9 => ?_)
  · have h := ifp c9 h
    refine G_iconst hC (v := (-1)) (by decide) dX9_byteAt_34 ?_
    have h := Option.some.inj h
    subst h
    exact Kr _ _ _ _ (nar_i _) ⟨rfl, rfl⟩ dX9_byteAt_35
  have h := ifn c9 h
  refine G_iload_n hC 1 1 rfl rfl dX9_byteAt_12 ?_
  refine G_aload_n hC 0 0 rfl rfl dX9_byteAt_13 ?_
  refine G_get hC inX9 81 (by omega) (v := .ref (ad 82)) e_text rfl 0 (by decide) m11 rfl rfl dX9_byteAt_14 ?_
  refine G_alen hC 0 82 (by omega) e_tbytes rfl rfl dX9_byteAt_17 ?_
  refine G_icmp_ge hC 34 dX9_byteAt_18 (by decide) (fun c18 => ?_) (fun c18 => ?_)
  · have h := ifp c18 h
    refine G_iconst hC (v := (-1)) (by decide) dX9_byteAt_34 ?_
    have h := Option.some.inj h
    subst h
    exact Kr _ _ _ _ (nar_i _) ⟨rfl, rfl⟩ dX9_byteAt_35
  have h := ifn c18 h
  refine G_aload_n hC 0 0 rfl rfl dX9_byteAt_21 ?_
  refine G_get hC inX9 81 (by omega) (v := .ref (ad 82)) e_text rfl 0 (by decide) m11 rfl rfl dX9_byteAt_22 ?_
  refine G_iload_n hC 1 1 rfl rfl dX9_byteAt_25 ?_
  obtain ⟨g26, h⟩ := asn h
  refine G_bald hC 82 (by omega) e_tbytes g26 dX9_byteAt_26 ?_
  refine G_sipush hC (v := 255) (by decide) dX9_byteAt_27 ?_
  refine G_iand hC dX9_byteAt_30 ?_
  refine G_goto hC 35 dX9_byteAt_31 (by decide) ?_
  have h := Option.some.inj h
  subst h
  exact Kr _ _ _ _ (nar_i _) ⟨rfl, rfl⟩ dX9_byteAt_35
