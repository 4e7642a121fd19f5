def f_J6_bitCount_0f7a4  (x0 : Int32) : Option (Int32) := some ((((((((x0 - (((x0.toUInt32 >>> ((1 : Int32).toUInt32 &&& Int32.toUInt32 31)).toInt32) &&& (1431655765 : Int32))) &&& (858993459 : Int32)) + ((((x0 - (((x0.toUInt32 >>> ((1 : Int32).toUInt32 &&& Int32.toUInt32 31)).toInt32) &&& (1431655765 : Int32))).toUInt32 >>> ((2 : Int32).toUInt32 &&& Int32.toUInt32 31)).toInt32) &&& (858993459 : Int32))) + (((((x0 - (((x0.toUInt32 >>> ((1 : Int32).toUInt32 &&& Int32.toUInt32 31)).toInt32) &&& (1431655765 : Int32))) &&& (858993459 : Int32)) + ((((x0 - (((x0.toUInt32 >>> ((1 : Int32).toUInt32 &&& Int32.toUInt32 31)).toInt32) &&& (1431655765 : Int32))).toUInt32 >>> ((2 : Int32).toUInt32 &&& Int32.toUInt32 31)).toInt32) &&& (858993459 : Int32))).toUInt32 >>> ((4 : Int32).toUInt32 &&& Int32.toUInt32 31)).toInt32)) &&& (252645135 : Int32)) + (((((((x0 - (((x0.toUInt32 >>> ((1 : Int32).toUInt32 &&& Int32.toUInt32 31)).toInt32) &&& (1431655765 : Int32))) &&& (858993459 : Int32)) + ((((x0 - (((x0.toUInt32 >>> ((1 : Int32).toUInt32 &&& Int32.toUInt32 31)).toInt32) &&& (1431655765 : Int32))).toUInt32 >>> ((2 : Int32).toUInt32 &&& Int32.toUInt32 31)).toInt32) &&& (858993459 : Int32))) + (((((x0 - (((x0.toUInt32 >>> ((1 : Int32).toUInt32 &&& Int32.toUInt32 31)).toInt32) &&& (1431655765 : Int32))) &&& (858993459 : Int32)) + ((((x0 - (((x0.toUInt32 >>> ((1 : Int32).toUInt32 &&& Int32.toUInt32 31)).toInt32) &&& (1431655765 : Int32))).toUInt32 >>> ((2 : Int32).toUInt32 &&& Int32.toUInt32 31)).toInt32) &&& (858993459 : Int32))).toUInt32 >>> ((4 : Int32).toUInt32 &&& Int32.toUInt32 31)).toInt32)) &&& (252645135 : Int32)).toUInt32 >>> ((8 : Int32).toUInt32 &&& Int32.toUInt32 31)).toInt32)) + ((((((((x0 - (((x0.toUInt32 >>> ((1 : Int32).toUInt32 &&& Int32.toUInt32 31)).toInt32) &&& (1431655765 : Int32))) &&& (858993459 : Int32)) + ((((x0 - (((x0.toUInt32 >>> ((1 : Int32).toUInt32 &&& Int32.toUInt32 31)).toInt32) &&& (1431655765 : Int32))).toUInt32 >>> ((2 : Int32).toUInt32 &&& Int32.toUInt32 31)).toInt32) &&& (858993459 : Int32))) + (((((x0 - (((x0.toUInt32 >>> ((1 : Int32).toUInt32 &&& Int32.toUInt32 31)).toInt32) &&& (1431655765 : Int32))) &&& (858993459 : Int32)) + ((((x0 - (((x0.toUInt32 >>> ((1 : Int32).toUInt32 &&& Int32.toUInt32 31)).toInt32) &&& (1431655765 : Int32))).toUInt32 >>> ((2 : Int32).toUInt32 &&& Int32.toUInt32 31)).toInt32) &&& (858993459 : Int32))).toUInt32 >>> ((4 : Int32).toUInt32 &&& Int32.toUInt32 31)).toInt32)) &&& (252645135 : Int32)) + (((((((x0 - (((x0.toUInt32 >>> ((1 : Int32).toUInt32 &&& Int32.toUInt32 31)).toInt32) &&& (1431655765 : Int32))) &&& (858993459 : Int32)) + ((((x0 - (((x0.toUInt32 >>> ((1 : Int32).toUInt32 &&& Int32.toUInt32 31)).toInt32) &&& (1431655765 : Int32))).toUInt32 >>> ((2 : Int32).toUInt32 &&& Int32.toUInt32 31)).toInt32) &&& (858993459 : Int32))) + (((((x0 - (((x0.toUInt32 >>> ((1 : Int32).toUInt32 &&& Int32.toUInt32 31)).toInt32) &&& (1431655765 : Int32))) &&& (858993459 : Int32)) + ((((x0 - (((x0.toUInt32 >>> ((1 : Int32).toUInt32 &&& Int32.toUInt32 31)).toInt32) &&& (1431655765 : Int32))).toUInt32 >>> ((2 : Int32).toUInt32 &&& Int32.toUInt32 31)).toInt32) &&& (858993459 : Int32))).toUInt32 >>> ((4 : Int32).toUInt32 &&& Int32.toUInt32 31)).toInt32)) &&& (252645135 : Int32)).toUInt32 >>> ((8 : Int32).toUInt32 &&& Int32.toUInt32 31)).toInt32)).toUInt32 >>> ((16 : Int32).toUInt32 &&& Int32.toUInt32 31)).toInt32)) &&& (63 : Int32))
set_option maxHeartbeats 4000000 in
set_option maxRecDepth 100000 in
theorem c_J6_bitCount_0f7a4 {D : va_G} {cs : Nat → ClassId} {sa : Nat → Nat} {n : Nat} {ad : Nat → Nat} {A : Nat → Prop} (l : Launch) {en : Nat → va_E}   {x0 : Int32}  {q : Int32}   (h : f_J6_bitCount_0f7a4 x0 = some q) : Met l yJ6_bitCount_0f7a4 wsJ6_bitCount_0f7a4 { frames := 0, cells := 0, slots := 0, locals := 0 } (va_Pc [.int x0] (Wd D cs sa n ad A en)) (va_Qi (fun r u => q = r ∧ en = u) (Wd D cs sa n ad A) A) 0 0 A := by
  refine G_startI cJ6_bitCount_0f7a4 1 [(0, .int x0)] (by decide) rfl (Nat.le_of_ble_eq_true rfl) rfl ?_
  intro p e s m args below meth c Q hC hnm Kr
  have k265 : Cond.constant RJ6 265 (1431655765) ∈ wsJ6_bitCount_0f7a4 := by decide +kernel
  have k266 : Cond.constant RJ6 266 (858993459) ∈ wsJ6_bitCount_0f7a4 := by decide +kernel
  have k267 : Cond.constant RJ6 267 (252645135) ∈ wsJ6_bitCount_0f7a4 := by decide +kernel
  unfold f_J6_bitCount_0f7a4 at h
  refine G_iload_n hC 0 0 rfl rfl dJ6_bitCount_0f7a4_0 ?_
  refine G_iload_n hC 0 0 rfl rfl dJ6_bitCount_0f7a4_1 ?_
  refine G_iconst hC (v := 1) (by decide) dJ6_bitCount_0f7a4_2 ?_
  refine G_iushr hC dJ6_bitCount_0f7a4_3 ?_
  refine G_ldcw hC (v := (1431655765)) k265 dJ6_bitCount_0f7a4_4 ?_
  refine G_iand hC dJ6_bitCount_0f7a4_7 ?_
  refine G_isub hC dJ6_bitCount_0f7a4_8 ?_
  refine G_istore_n hC 0 [(0, .int (x0 - (((x0.toUInt32 >>> ((1 : Int32).toUInt32 &&& Int32.toUInt32 31)).toInt32) &&& (1431655765 : Int32))))] rfl (by decide) rfl dJ6_bitCount_0f7a4_9 ?_
  refine G_iload_n hC 0 0 rfl rfl dJ6_bitCount_0f7a4_10 ?_
  refine G_ldcw hC (v := (858993459)) k266 dJ6_bitCount_0f7a4_11 ?_
  refine G_iand hC dJ6_bitCount_0f7a4_14 ?_
  refine G_iload_n hC 0 0 rfl rfl dJ6_bitCount_0f7a4_15 ?_
  refine G_iconst hC (v := 2) (by decide) dJ6_bitCount_0f7a4_16 ?_
  refine G_iushr hC dJ6_bitCount_0f7a4_17 ?_
  refine G_ldcw hC (v := (858993459)) k266 dJ6_bitCount_0f7a4_18 ?_
  refine G_iand hC dJ6_bitCount_0f7a4_21 ?_
  refine G_iadd hC dJ6_bitCount_0f7a4_22 ?_
  refine G_istore_n hC 0 [(0, .int (((x0 - (((x0.toUInt32 >>> ((1 : Int32).toUInt32 &&& Int32.toUInt32 31)).toInt32) &&& (1431655765 : Int32))) &&& (858993459 : Int32)) + ((((x0 - (((x0.toUInt32 >>> ((1 : Int32).toUInt32 &&& Int32.toUInt32 31)).toInt32) &&& (1431655765 : Int32))).toUInt32 >>> ((2 : Int32).toUInt32 &&& Int32.toUInt32 31)).toInt32) &&& (858993459 : Int32))))] rfl (by decide) rfl dJ6_bitCount_0f7a4_23 ?_
  refine G_iload_n hC 0 0 rfl rfl dJ6_bitCount_0f7a4_24 ?_
  refine G_iload_n hC 0 0 rfl rfl dJ6_bitCount_0f7a4_25 ?_
  refine G_iconst hC (v := 4) (by decide) dJ6_bitCount_0f7a4_26 ?_
  refine G_iushr hC dJ6_bitCount_0f7a4_27 ?_
  refine G_iadd hC dJ6_bitCount_0f7a4_28 ?_
  refine G_ldcw hC (v := (252645135)) k267 dJ6_bitCount_0f7a4_29 ?_
  refine G_iand hC dJ6_bitCount_0f7a4_32 ?_
  refine G_istore_n hC 0 [(0, .int (((((x0 - (((x0.toUInt32 >>> ((1 : Int32).toUInt32 &&& Int32.toUInt32 31)).toInt32) &&& (1431655765 : Int32))) &&& (858993459 : Int32)) + ((((x0 - (((x0.toUInt32 >>> ((1 : Int32).toUInt32 &&& Int32.toUInt32 31)).toInt32) &&& (1431655765 : Int32))).toUInt32 >>> ((2 : Int32).toUInt32 &&& Int32.toUInt32 31)).toInt32) &&& (858993459 : Int32))) + (((((x0 - (((x0.toUInt32 >>> ((1 : Int32).toUInt32 &&& Int32.toUInt32 31)).toInt32) &&& (1431655765 : Int32))) &&& (858993459 : Int32)) + ((((x0 - (((x0.toUInt32 >>> ((1 : Int32).toUInt32 &&& Int32.toUInt32 31)).toInt32) &&& (1431655765 : Int32))).toUInt32 >>> ((2 : Int32).toUInt32 &&& Int32.toUInt32 31)).toInt32) &&& (858993459 : Int32))).toUInt32 >>> ((4 : Int32).toUInt32 &&& Int32.toUInt32 31)).toInt32)) &&& (252645135 : Int32)))] rfl (by decide) rfl dJ6_bitCount_0f7a4_33 ?_
  refine G_iload_n hC 0 0 rfl rfl dJ6_bitCount_0f7a4_34 ?_
  refine G_iload_n hC 0 0 rfl rfl dJ6_bitCount_0f7a4_35 ?_
  refine G_bipush hC (v := 8) (by decide) dJ6_bitCount_0f7a4_36 ?_
  refine G_iushr hC dJ6_bitCount_0f7a4_38 ?_
  refine G_iadd hC dJ6_bitCount_0f7a4_39 ?_
  refine G_istore_n hC 0 [(0, .int ((((((x0 - (((x0.toUInt32 >>> ((1 : Int32).toUInt32 &&& Int32.toUInt32 31)).toInt32) &&& (1431655765 : Int32))) &&& (858993459 : Int32)) + ((((x0 - (((x0.toUInt32 >>> ((1 : Int32).toUInt32 &&& Int32.toUInt32 31)).toInt32) &&& (1431655765 : Int32))).toUInt32 >>> ((2 : Int32).toUInt32 &&& Int32.toUInt32 31)).toInt32) &&& (858993459 : Int32))) + (((((x0 - (((x0.toUInt32 >>> ((1 : Int32).toUInt32 &&& Int32.toUInt32 31)).toInt32) &&& (1431655765 : Int32))) &&& (858993459 : Int32)) + ((((x0 - (((x0.toUInt32 >>> ((1 : Int32).toUInt32 &&& Int32.toUInt32 31)).toInt32) &&& (1431655765 : Int32))).toUInt32 >>> ((2 : Int32).toUInt32 &&& Int32.toUInt32 31)).toInt32) &&& (858993459 : Int32))).toUInt32 >>> ((4 : Int32).toUInt32 &&& Int32.toUInt32 31)).toInt32)) &&& (252645135 : Int32)) + (((((((x0 - (((x0.toUInt32 >>> ((1 : Int32).toUInt32 &&& Int32.toUInt32 31)).toInt32) &&& (1431655765 : Int32))) &&& (858993459 : Int32)) + ((((x0 - (((x0.toUInt32 >>> ((1 : Int32).toUInt32 &&& Int32.toUInt32 31)).toInt32) &&& (1431655765 : Int32))).toUInt32 >>> ((2 : Int32).toUInt32 &&& Int32.toUInt32 31)).toInt32) &&& (858993459 : Int32))) + (((((x0 - (((x0.toUInt32 >>> ((1 : Int32).toUInt32 &&& Int32.toUInt32 31)).toInt32) &&& (1431655765 : Int32))) &&& (858993459 : Int32)) + ((((x0 - (((x0.toUInt32 >>> ((1 : Int32).toUInt32 &&& Int32.toUInt32 31)).toInt32) &&& (1431655765 : Int32))).toUInt32 >>> ((2 : Int32).toUInt32 &&& Int32.toUInt32 31)).toInt32) &&& (858993459 : Int32))).toUInt32 >>> ((4 : Int32).toUInt32 &&& Int32.toUInt32 31)).toInt32)) &&& (252645135 : Int32)).toUInt32 >>> ((8 : Int32).toUInt32 &&& Int32.toUInt32 31)).toInt32)))] rfl (by decide) rfl dJ6_bitCount_0f7a4_40 ?_
  refine G_iload_n hC 0 0 rfl rfl dJ6_bitCount_0f7a4_41 ?_
  refine G_iload_n hC 0 0 rfl rfl dJ6_bitCount_0f7a4_42 ?_
  refine G_bipush hC (v := 16) (by decide) dJ6_bitCount_0f7a4_43 ?_
  refine G_iushr hC dJ6_bitCount_0f7a4_45 ?_
  refine G_iadd hC dJ6_bitCount_0f7a4_46 ?_
  refine G_istore_n hC 0 [(0, .int (((((((x0 - (((x0.toUInt32 >>> ((1 : Int32).toUInt32 &&& Int32.toUInt32 31)).toInt32) &&& (1431655765 : Int32))) &&& (858993459 : Int32)) + ((((x0 - (((x0.toUInt32 >>> ((1 : Int32).toUInt32 &&& Int32.toUInt32 31)).toInt32) &&& (1431655765 : Int32))).toUInt32 >>> ((2 : Int32).toUInt32 &&& Int32.toUInt32 31)).toInt32) &&& (858993459 : Int32))) + (((((x0 - (((x0.toUInt32 >>> ((1 : Int32).toUInt32 &&& Int32.toUInt32 31)).toInt32) &&& (1431655765 : Int32))) &&& (858993459 : Int32)) + ((((x0 - (((x0.toUInt32 >>> ((1 : Int32).toUInt32 &&& Int32.toUInt32 31)).toInt32) &&& (1431655765 : Int32))).toUInt32 >>> ((2 : Int32).toUInt32 &&& Int32.toUInt32 31)).toInt32) &&& (858993459 : Int32))).toUInt32 >>> ((4 : Int32).toUInt32 &&& Int32.toUInt32 31)).toInt32)) &&& (252645135 : Int32)) + (((((((x0 - (((x0.toUInt32 >>> ((1 : Int32).toUInt32 &&& Int32.toUInt32 31)).toInt32) &&& (1431655765 : Int32))) &&& (858993459 : Int32)) + ((((x0 - (((x0.toUInt32 >>> ((1 : Int32).toUInt32 &&& Int32.toUInt32 31)).toInt32) &&& (1431655765 : Int32))).toUInt32 >>> ((2 : Int32).toUInt32 &&& Int32.toUInt32 31)).toInt32) &&& (858993459 : Int32))) + (((((x0 - (((x0.toUInt32 >>> ((1 : Int32).toUInt32 &&& Int32.toUInt32 31)).toInt32) &&& (1431655765 : Int32))) &&& (858993459 : Int32)) + ((((x0 - (((x0.toUInt32 >>> ((1 : Int32).toUInt32 &&& Int32.toUInt32 31)).toInt32) &&& (1431655765 : Int32))).toUInt32 >>> ((2 : Int32).toUInt32 &&& Int32.toUInt32 31)).toInt32) &&& (858993459 : Int32))).toUInt32 >>> ((4 : Int32).toUInt32 &&& Int32.toUInt32 31)).toInt32)) &&& (252645135 : Int32)).toUInt32 >>> ((8 : Int32).toUInt32 &&& Int32.toUInt32 31)).toInt32)) + ((((((((x0 - (((x0.toUInt32 >>> ((1 : Int32).toUInt32 &&& Int32.toUInt32 31)).toInt32) &&& (1431655765 : Int32))) &&& (858993459 : Int32)) + ((((x0 - (((x0.toUInt32 >>> ((1 : Int32).toUInt32 &&& Int32.toUInt32 31)).toInt32) &&& (1431655765 : Int32))).toUInt32 >>> ((2 : Int32).toUInt32 &&& Int32.toUInt32 31)).toInt32) &&& (858993459 : Int32))) + (((((x0 - (((x0.toUInt32 >>> ((1 : Int32).toUInt32 &&& Int32.toUInt32 31)).toInt32) &&& (1431655765 : Int32))) &&& (858993459 : Int32)) + ((((x0 - (((x0.toUInt32 >>> ((1 : Int32).toUInt32 &&& Int32.toUInt32 31)).toInt32) &&& (1431655765 : Int32))).toUInt32 >>> ((2 : Int32).toUInt32 &&& Int32.toUInt32 31)).toInt32) &&& (858993459 : Int32))).toUInt32 >>> ((4 : Int32).toUInt32 &&& Int32.toUInt32 31)).toInt32)) &&& (252645135 : Int32)) + (((((((x0 - (((x0.toUInt32 >>> ((1 : Int32).toUInt32 &&& Int32.toUInt32 31)).toInt32) &&& (1431655765 : Int32))) &&& (858993459 : Int32)) + ((((x0 - (((x0.toUInt32 >>> ((1 : Int32).toUInt32 &&& Int32.toUInt32 31)).toInt32) &&& (1431655765 : Int32))).toUInt32 >>> ((2 : Int32).toUInt32 &&& Int32.toUInt32 31)).toInt32) &&& (858993459 : Int32))) + (((((x0 - (((x0.toUInt32 >>> ((1 : Int32).toUInt32 &&& Int32.toUInt32 31)).toInt32) &&& (1431655765 : Int32))) &&& (858993459 : Int32)) + ((((x0 - (((x0.toUInt32 >>> ((1 : Int32).toUInt32 &&& Int32.toUInt32 31)).toInt32) &&& (1431655765 : Int32))).toUInt32 >>> ((2 : Int32).toUInt32 &&& Int32.toUInt32 31)).toInt32) &&& (858993459 : Int32))).toUInt32 >>> ((4 : Int32).toUInt32 &&& Int32.toUInt32 31)).toInt32)) &&& (252645135 : Int32)).toUInt32 >>> ((8 : Int32).toUInt32 &&& Int32.toUInt32 31)).toInt32)).toUInt32 >>> ((16 : Int32).toUInt32 &&& Int32.toUInt32 31)).toInt32)))] rfl (by decide) rfl dJ6_bitCount_0f7a4_47 ?_
  refine G_iload_n hC 0 0 rfl rfl dJ6_bitCount_0f7a4_48 ?_
  refine G_bipush hC (v := 63) (by decide) dJ6_bitCount_0f7a4_49 ?_
  refine G_iand hC dJ6_bitCount_0f7a4_51 ?_
  have h := Option.some.inj h
  subst h
  exact Kr _ _ _ _ (nar_i _) ⟨rfl, rfl⟩ dJ6_bitCount_0f7a4_52
def f_X4_hasAll_B42 (now : HallV) (rL4 : Int32 → Int32 → Int32 → Option (Int32)) (x1 : Int32) (x3 : Int32) (s0 : Int32) : Option (Int32) := rL4 x1 s0 (x3 + (1 : Int32))
def f_X4_hasAll_B41 (now : HallV) (rL4 : Int32 → Int32 → Int32 → Option (Int32)) (x1 : Int32) (x3 : Int32) : Option (Int32) := f_X4_hasAll_B42 now rL4 x1 x3 (0 : Int32)
def f_X4_hasAll_B37 (now : HallV) (rL4 : Int32 → Int32 → Int32 → Option (Int32)) (x1 : Int32) (x3 : Int32) : Option (Int32) := f_X4_hasAll_B42 now rL4 x1 x3 (1 : Int32)
def f_X4_hasAll_L4 (now : HallV)  : Nat → Int32 → Int32 → Int32 → Option (Int32)
  | 0, _, _, _ => none
  | fu + 1, x1, x2, x3 => if (5 : Int32) ≤ x3 then (if x2 = 0 ∨ x2 = 1 then (some x2) else none) else (Option.bind (f_X1_hasOf now x3) (fun q11 => if x2 = 0 then (f_X4_hasAll_B41 now (f_X4_hasAll_L4 now fu) x1 x3) else (if q11 = (-1 : Int32) then (f_X4_hasAll_B37 now (f_X4_hasAll_L4 now fu) x1 x3) else (Option.bind (f_X1_partOf now x1 x3) (fun q31 => if q11 = q31 then (f_X4_hasAll_B37 now (f_X4_hasAll_L4 now fu) x1 x3) else (f_X4_hasAll_B41 now (f_X4_hasAll_L4 now fu) x1 x3))))))
def f_X4_hasAll (now : HallV) (x1 : Int32) : Option (Int32) := f_X4_hasAll_L4 now FU x1 (1 : Int32) (0 : Int32)
set_option maxHeartbeats 4000000 in
set_option maxRecDepth 100000 in
theorem c_X4_hasAll {D : va_G} {cs : Nat → ClassId} {sa : Nat → Nat} {n : Nat} {ad : Nat → Nat} {A : Nat → Prop} (l : Launch) {en : Nat → va_E}  {now : HallV} {x1 : Int32}  {q : Int32} (hn : 110 ≤ n) (H_now : Hall cs ad en 1 now) (h : f_X4_hasAll now x1 = some q) : Met l yX4_hasAll wsX4_hasAll { frames := 3, cells := 0, slots := 0, locals := 66 } (va_Pc [.ref (ad 1), .int x1] (Wd D cs sa n ad A en)) (va_Qi (fun r u => q = r ∧ en = u) (Wd D cs sa n ad A) A) 0 0 A := by
  refine G_startI cX4_hasAll 5 [(0, .ref (ad 1)), (1, .int x1)] (by decide) rfl (Nat.le_of_ble_eq_true rfl) rfl ?_
  intro p e s m args below meth c Q hC hnm Kr
  have hL4 : ∀ (fu4 : Nat), ∀ (x1 : Int32) (x2 : Int32) (x3 : Int32), f_X4_hasAll_L4 now fu4 x1 x2 x3 = some q → G p l e ({ frames := 3, cells := 0, slots := 0, locals := 66 } : Room) s m args below meth c D n ad A 5 0 0 Q en 4 [(0, .ref (ad 1)), (1, .int x1), (2, .int x2), (3, .int x3)] [] := by
    intro fu4
    induction fu4 with
    | zero =>
      intro x1 x2 x3 h
      rw [f_X4_hasAll_L4] at h
      cases h
    | succ fu4 ih4 =>
      have hB42 : ∀ (x1 : Int32) (x3 : Int32) (s0 : Int32), f_X4_hasAll_B42 now (f_X4_hasAll_L4 now fu4) x1 x3 s0 = some q → G p l e ({ frames := 3, cells := 0, slots := 0, locals := 66 } : Room) s m args below meth c D n ad A 5 0 0 Q en 42 [(0, .ref (ad 1)), (1, .int x1), (3, .int x3)] [.int s0] := by
        intro x1 x3 s0 h
        unfold f_X4_hasAll_B42 at h
        refine G_istore_n hC 2 [(2, .int s0), (0, .ref (ad 1)), (1, .int x1), (3, .int x3)] rfl (by decide) rfl dX4_hasAll_42 ?_
        refine G_iinc hC 3 3 [(3, .int (x3 + (1 : Int32))), (2, .int s0), (0, .ref (ad 1)), (1, .int x1)] rfl rfl (by decide) rfl dX4_hasAll_43 ?_
        refine G_goto hC 4 dX4_hasAll_46 (by decide) ?_
        refine G_lv [2, 3, 1, 0] rfl ?_
        exact ih4 _ _ _ h
      have hB41 : ∀ (x1 : Int32) (x3 : Int32), f_X4_hasAll_B41 now (f_X4_hasAll_L4 now fu4) x1 x3 = some q → G p l e ({ frames := 3, cells := 0, slots := 0, locals := 66 } : Room) s m args below meth c D n ad A 5 0 0 Q en 41 [(0, .ref (ad 1)), (1, .int x1), (3, .int x3)] [] := by
        intro x1 x3 h
        unfold f_X4_hasAll_B41 at h
        refine G_iconst hC (v := 0) (by decide) dX4_hasAll_41 ?_
        refine G_lv [0, 1, 2] rfl ?_
        exact hB42 _ _ _ h
      have hB37 : ∀ (x1 : Int32) (x3 : Int32), f_X4_hasAll_B37 now (f_X4_hasAll_L4 now fu4) x1 x3 = some q → G p l e ({ frames := 3, cells := 0, slots := 0, locals := 66 } : Room) s m args below meth c D n ad A 5 0 0 Q en 37 [(0, .ref (ad 1)), (1, .int x1), (3, .int x3)] [] := by
        intro x1 x3 h
        unfold f_X4_hasAll_B37 at h
        refine G_iconst hC (v := 1) (by decide) dX4_hasAll_37 ?_
        refine G_goto hC 42 dX4_hasAll_38 (by decide) ?_
        refine G_lv [0, 1, 2] rfl ?_
        exact hB42 _ _ _ h
      intro x1 x2 x3 h
      rw [f_X4_hasAll_L4] at h
      refine G_iload_n hC 3 3 rfl rfl dX4_hasAll_4 ?_
      refine G_iconst hC (v := 5) (by decide) dX4_hasAll_5 ?_
      refine G_icmp_ge hC 49 dX4_hasAll_6 (by decide) (fun c6 => ?_) (fun c6 => ?_)
      · have h := ifp c6 h
        refine G_iload_n hC 2 2 rfl rfl dX4_hasAll_49 ?_
        obtain ⟨g50, h⟩ := asr h
        have h := Option.some.inj h
        subst h
        exact Kr _ _ _ _ (nar_b g50) ⟨rfl, rfl⟩ dX4_hasAll_50
      have h := ifn c6 h
      refine G_aload_n hC 0 0 rfl rfl dX4_hasAll_9 ?_
      refine G_iload_n hC 3 3 rfl rfl dX4_hasAll_10 ?_
      obtain ⟨q11, h11, h⟩ := bnd h
      refine G_cVi (st := []) hC _ 1 (by omega) (c_X1_hasOf (kk := 1) l (by omega) H_now h11) (cwV 1 hC.hts gX4_hasAll_X1_hasOf rfl rfl rfl (by decide +kernel) ⟨Nat.le_of_ble_eq_true rfl, Nat.le_of_ble_eq_true rfl⟩) (H_now 0 (by decide)) rfl rfl (Nat.le_of_ble_eq_true rfl) (Nat.zero_le _) (Nat.zero_le _) rfl dX4_hasAll_11 (fun r11 enx hw => ?_)
      obtain ⟨rfl, rfl⟩ := hw
      refine G_istore hC 4 [(4, .int q11), (0, .ref (ad 1)), (1, .int x1), (2, .int x2), (3, .int x3)] (by decide) rfl dX4_hasAll_14 ?_
      refine G_iload_n hC 2 3 rfl rfl dX4_hasAll_16 ?_
      refine G_if_eq hC 41 dX4_hasAll_17 (by decide) (fun c17 => ?_) (fun c17 => ?_)
      · have h := ifp c17 h
        refine G_lv [1, 2, 4] rfl ?_
        exact hB41 _ _ h
      have h := ifn c17 h
      refine G_iload hC 4 0 rfl dX4_hasAll_20 ?_
      refine G_iconst hC (v := (-1)) (by decide) dX4_hasAll_22 ?_
      refine G_icmp_eq hC 37 dX4_hasAll_23 (by decide) (fun c23 => ?_) (fun c23 => ?_)
      · have h := ifp c23 h
        refine G_lv [1, 2, 4] rfl ?_
        exact hB37 _ _ h
      have h := ifn c23 h
      refine G_iload hC 4 0 rfl dX4_hasAll_26 ?_
      refine G_aload_n hC 0 1 rfl rfl dX4_hasAll_28 ?_
      refine G_iload_n hC 1 2 rfl rfl dX4_hasAll_29 ?_
      refine G_iload_n hC 3 4 rfl rfl dX4_hasAll_30 ?_
      obtain ⟨q31, h31, h⟩ := bnd h
      refine G_cVi (st := [.int q11]) hC _ 1 (by omega) (c_X1_partOf (kk := 1) l (by omega) H_now h31) (cwV 2 hC.hts gX4_hasAll_X1_partOf rfl rfl rfl (by decide +kernel) ⟨Nat.le_of_ble_eq_true rfl, Nat.le_of_ble_eq_true rfl⟩) (H_now 0 (by decide)) rfl rfl (Nat.le_of_ble_eq_true rfl) (Nat.zero_le _) (Nat.zero_le _) rfl dX4_hasAll_31 (fun r31 enx hw => ?_)
      obtain ⟨rfl, rfl⟩ := hw
      refine G_icmp_ne hC 41 dX4_hasAll_34 (by decide) (fun c34 => ?_) (fun c34 => ?_)
      · have h := ifn c34 h
        refine G_lv [1, 2, 4] rfl ?_
        exact hB41 _ _ h
      have h := ifp c34 h
      refine G_lv [1, 2, 4] rfl ?_
      exact hB37 _ _ h
  unfold f_X4_hasAll at h
  refine G_iconst hC (v := 1) (by decide) dX4_hasAll_0 ?_
  refine G_istore_n hC 2 [(2, .int (1 : Int32)), (0, .ref (ad 1)), (1, .int x1)] rfl (by decide) rfl dX4_hasAll_1 ?_
  refine G_iconst hC (v := 0) (by decide) dX4_hasAll_2 ?_
  refine G_istore_n hC 3 [(3, .int (0 : Int32)), (2, .int (1 : Int32)), (0, .ref (ad 1)), (1, .int x1)] rfl (by decide) rfl dX4_hasAll_3 ?_
  refine G_lv [2, 3, 1, 0] rfl ?_
  exact hL4 FU _ _ _ h
def f_X4_whoseBits_B29 (now : HallV) (rL4 : Int32 → Int32 → Option (Int32)) (x1 : Int32) (x2 : Int32) : Option (Int32) := rL4 x1 (x2 + (1 : Int32))
def f_X4_whoseBits_L4 (now : HallV)  : Nat → Int32 → Int32 → Option (Int32)
  | 0, _, _ => none
  | fu + 1, x1, x2 => Option.bind (f_X8_size (now.1 0)) (fun q9 => if q9 ≤ x2 then (some x1) else (Option.bind (f_X4_hasAll now x2) (fun q17 => if q17 = 0 then (f_X4_whoseBits_B29 now (f_X4_whoseBits_L4 now fu) x1 x2) else (f_X4_whoseBits_B29 now (f_X4_whoseBits_L4 now fu) (x1 ||| ((1 : Int32) <<< (x2 &&& (31 : Int32)))) x2))))
def f_X4_whoseBits (now : HallV)  : Option (Int32) := f_X4_whoseBits_L4 now FU (0 : Int32) (0 : Int32)
set_option maxHeartbeats 4000000 in
set_option maxRecDepth 100000 in
theorem c_X4_whoseBits {D : va_G} {cs : Nat → ClassId} {sa : Nat → Nat} {n : Nat} {ad : Nat → Nat} {A : Nat → Prop} (l : Launch) {en : Nat → va_E}  {now : HallV}   {q : Int32} (hn : 110 ≤ n) (H_now : Hall cs ad en 1 now) (h : f_X4_whoseBits now = some q) : Met l yX4_whoseBits wsX4_whoseBits { frames := 4, cells := 0, slots := 0, locals := 90 } (va_Pc [.ref (ad 1)] (Wd D cs sa n ad A en)) (va_Qi (fun r u => q = r ∧ en = u) (Wd D cs sa n ad A) A) 0 0 A := by
  refine G_startI cX4_whoseBits 3 [(0, .ref (ad 1))] (by decide) rfl (Nat.le_of_ble_eq_true rfl) rfl ?_
  intro p e s m args below meth c Q hC hnm Kr
  have inX1 : ∀ w ∈ u_ws RX1 TX1 6, w ∈ wsX4_whoseBits := by decide +kernel
  have m9 : Cond.fieldLink RX4 9 "TongueTip$Hall" "people" "LTongueTip$Table;" ∈ wsX4_whoseBits := by decide +kernel
  have hL4 : ∀ (fu4 : Nat), ∀ (x1 : Int32) (x2 : Int32), f_X4_whoseBits_L4 now fu4 x1 x2 = some q → G p l e ({ frames := 4, cells := 0, slots := 0, locals := 90 } : Room) s m args below meth c D n ad A 3 0 0 Q en 4 [(0, .ref (ad 1)), (1, .int x1), (2, .int x2)] [] := by
    intro fu4
    induction fu4 with
    | zero =>
      intro x1 x2 h
      rw [f_X4_whoseBits_L4] at h
      cases h
    | succ fu4 ih4 =>
      have hB29 : ∀ (x1 : Int32) (x2 : Int32), f_X4_whoseBits_B29 now (f_X4_whoseBits_L4 now fu4) x1 x2 = some q → G p l e ({ frames := 4, cells := 0, slots := 0, locals := 90 } : Room) s m args below meth c D n ad A 3 0 0 Q en 29 [(0, .ref (ad 1)), (1, .int x1), (2, .int x2)] [] := by
        intro x1 x2 h
        unfold f_X4_whoseBits_B29 at h
        refine G_iinc hC 2 2 [(2, .int (x2 + (1 : Int32))), (0, .ref (ad 1)), (1, .int x1)] rfl rfl (by decide) rfl dX4_whoseBits_29 ?_
        refine G_goto hC 4 dX4_whoseBits_32 (by decide) ?_
        refine G_lv [1, 2, 0] rfl ?_
        exact ih4 _ _ h
      intro x1 x2 h
      rw [f_X4_whoseBits_L4] at h
      refine G_iload_n hC 2 2 rfl rfl dX4_whoseBits_4 ?_
      refine G_aload_n hC 0 0 rfl rfl dX4_whoseBits_5 ?_
      refine G_get hC inX1 1 (by omega) (v := .ref (ad (2))) (H_now 0 (by decide)) rfl 0 (by decide) m9 rfl rfl dX4_whoseBits_6 ?_
      obtain ⟨q9, h9, h⟩ := bnd h
      refine G_cVi (st := [.int x2]) hC _ (1 + 1) (by omega) (c_X8_size (pp := 1 + 1) l (by omega) (H_now 1 (by decide)) h9) (cwV 0 hC.hts gX4_whoseBits_X8_size rfl rfl rfl (by decide +kernel) ⟨Nat.le_of_ble_eq_true rfl, Nat.le_of_ble_eq_true rfl⟩) (H_now 1 (by decide)) rfl rfl (Nat.le_of_ble_eq_true rfl) (Nat.zero_le _) (Nat.zero_le _) rfl dX4_whoseBits_9 (fun r9 enx hw => ?_)
      obtain ⟨rfl, rfl⟩ := hw
      refine G_icmp_ge hC 35 dX4_whoseBits_12 (by decide) (fun c12 => ?_) (fun c12 => ?_)
      · have h := ifp c12 h
        refine G_iload_n hC 1 1 rfl rfl dX4_whoseBits_35 ?_
        have h := Option.some.inj h
        subst h
        exact Kr _ _ _ _ (nar_i _) ⟨rfl, rfl⟩ dX4_whoseBits_36
      have h := ifn c12 h
      refine G_aload_n hC 0 0 rfl rfl dX4_whoseBits_15 ?_
      refine G_iload_n hC 2 2 rfl rfl dX4_whoseBits_16 ?_
      obtain ⟨q17, h17, h⟩ := bnd h
      refine G_cSi (st := []) hC _ (c_X4_hasAll  l (by omega) H_now h17) (va_cwS 2 hC.hts gX4_whoseBits_X4_hasAll rfl rfl rfl (by decide +kernel) ⟨Nat.le_of_ble_eq_true rfl, Nat.le_of_ble_eq_true rfl⟩) rfl (Nat.le_of_ble_eq_true rfl) (Nat.zero_le _) (Nat.zero_le _) rfl dX4_whoseBits_17 (fun r17 enx hw => ?_)
      obtain ⟨rfl, rfl⟩ := hw
      refine G_if_eq hC 29 dX4_whoseBits_20 (by decide) (fun c20 => ?_) (fun c20 => ?_)
      · have h := ifp c20 h
        refine G_lv [0, 1, 2] rfl ?_
        exact hB29 _ _ h
      have h := ifn c20 h
      refine G_iload_n hC 1 1 rfl rfl dX4_whoseBits_23 ?_
      refine G_iconst hC (v := 1) (by decide) dX4_whoseBits_24 ?_
      refine G_iload_n hC 2 2 rfl rfl dX4_whoseBits_25 ?_
      refine G_ishl hC dX4_whoseBits_26 ?_
      refine G_ior hC dX4_whoseBits_27 ?_
      refine G_istore_n hC 1 [(1, .int (x1 ||| ((1 : Int32) <<< (x2 &&& (31 : Int32))))), (0, .ref (ad 1)), (2, .int x2)] rfl (by decide) rfl dX4_whoseBits_28 ?_
      refine G_lv [1, 0, 2] rfl ?_
      exact hB29 _ _ h
  unfold f_X4_whoseBits at h
  refine G_iconst hC (v := 0) (by decide) dX4_whoseBits_0 ?_
  refine G_istore_n hC 1 [(1, .int (0 : Int32)), (0, .ref (ad 1))] rfl (by decide) rfl dX4_whoseBits_1 ?_
  refine G_iconst hC (v := 0) (by decide) dX4_whoseBits_2 ?_
  refine G_istore_n hC 2 [(2, .int (0 : Int32)), (1, .int (0 : Int32)), (0, .ref (ad 1))] rfl (by decide) rfl dX4_whoseBits_3 ?_
  refine G_lv [2, 1, 0] rfl ?_
  exact hL4 FU _ _ h
def f_X4_seenOf_B30 (now : HallV) (rL4 : Int32 → Int32 → Int32 → Option (Int32)) (x1 : Int32) (x2 : Int32) (x3 : Int32) : Option (Int32) := rL4 x1 x2 (x3 + (1 : Int32))
def f_X4_seenOf_L4 (now : HallV)  : Nat → Int32 → Int32 → Int32 → Option (Int32)
  | 0, _, _, _ => none
  | fu + 1, x1, x2, x3 => if (12 : Int32) ≤ x3 then (some x2) else (Option.bind (f_X10_isIn x1 x3) (fun q12 => if q12 = 0 then (f_X4_seenOf_B30 now (f_X4_seenOf_L4 now fu) x1 x2 x3) else (Option.bind (f_X8_number (7 : Int32) 84 (now.2.1 0) x3 (5 : Int32)) (fun q25 => f_X4_seenOf_B30 now (f_X4_seenOf_L4 now fu) x1 (x2 + q25) x3))))
def f_X4_seenOf (now : HallV) (x1 : Int32) : Option (Int32) := f_X4_seenOf_L4 now FU x1 (0 : Int32) (0 : Int32)
set_option maxHeartbeats 4000000 in
set_option maxRecDepth 100000 in
theorem c_X4_seenOf {D : va_G} {cs : Nat → ClassId} {sa : Nat → Nat} {n : Nat} {ad : Nat → Nat} {A : Nat → Prop} (l : Launch) {en : Nat → va_E}  {now : HallV} {x1 : Int32}  {q : Int32} (hn : 110 ≤ n) (H_now : Hall cs ad en 1 now) (h : f_X4_seenOf now x1 = some q) : Met l yX4_seenOf wsX4_seenOf { frames := 1, cells := 0, slots := 0, locals := 23 } (va_Pc [.ref (ad 1), .int x1] (Wd D cs sa n ad A en)) (va_Qi (fun r u => q = r ∧ en = u) (Wd D cs sa n ad A) A) 0 0 A := by
  refine G_startI cX4_seenOf 4 [(0, .ref (ad 1)), (1, .int x1)] (by decide) rfl (Nat.le_of_ble_eq_true rfl) rfl ?_
  intro p e s m args below meth c Q hC hnm Kr
  have inX1 : ∀ w ∈ u_ws RX1 TX1 6, w ∈ wsX4_seenOf := by decide +kernel
  have m9 : Cond.fieldLink RX4 9 "TongueTip$Hall" "people" "LTongueTip$Table;" ∈ wsX4_seenOf := by decide +kernel
  have zi_X10_isIn : Cond.initialized RX10 ∈ wsX4_seenOf := by decide +kernel
  have zs_X10_isIn : Cond.static yX10_isIn ∈ wsX4_seenOf := by decide +kernel
  have hL4 : ∀ (fu4 : Nat), ∀ (x1 : Int32) (x2 : Int32) (x3 : Int32), f_X4_seenOf_L4 now fu4 x1 x2 x3 = some q → G p l e ({ frames := 1, cells := 0, slots := 0, locals := 23 } : Room) s m args below meth c D n ad A 4 0 0 Q en 4 [(0, .ref (ad 1)), (1, .int x1), (2, .int x2), (3, .int x3)] [] := by
    intro fu4
    induction fu4 with
    | zero =>
      intro x1 x2 x3 h
      rw [f_X4_seenOf_L4] at h
      cases h
    | succ fu4 ih4 =>
      have hB30 : ∀ (x1 : Int32) (x2 : Int32) (x3 : Int32), f_X4_seenOf_B30 now (f_X4_seenOf_L4 now fu4) x1 x2 x3 = some q → G p l e ({ frames := 1, cells := 0, slots := 0, locals := 23 } : Room) s m args below meth c D n ad A 4 0 0 Q en 30 [(0, .ref (ad 1)), (1, .int x1), (2, .int x2), (3, .int x3)] [] := by
        intro x1 x2 x3 h
        unfold f_X4_seenOf_B30 at h
        refine G_iinc hC 3 3 [(3, .int (x3 + (1 : Int32))), (0, .ref (ad 1)), (1, .int x1), (2, .int x2)] rfl rfl (by decide) rfl dX4_seenOf_30 ?_
        refine G_goto hC 4 dX4_seenOf_33 (by decide) ?_
        refine G_lv [1, 2, 3, 0] rfl ?_
        exact ih4 _ _ _ h
      intro x1 x2 x3 h
      rw [f_X4_seenOf_L4] at h
      refine G_iload_n hC 3 3 rfl rfl dX4_seenOf_4 ?_
      refine G_bipush hC (v := 12) (by decide) dX4_seenOf_5 ?_
      refine G_icmp_ge hC 36 dX4_seenOf_7 (by decide) (fun c7 => ?_) (fun c7 => ?_)
      · have h := ifp c7 h
        refine G_iload_n hC 2 2 rfl rfl dX4_seenOf_36 ?_
        have h := Option.some.inj h
        subst h
        exact Kr _ _ _ _ (nar_i _) ⟨rfl, rfl⟩ dX4_seenOf_37
      have h := ifn c7 h
      refine G_iload_n hC 1 1 rfl rfl dX4_seenOf_10 ?_
      refine G_iload_n hC 3 3 rfl rfl dX4_seenOf_11 ?_
      obtain ⟨q12, h12, h⟩ := bnd h
      refine G_cNi (st := []) hC _ (c_X10_isIn  l  h12) ⟨va_cnB 2 hC.hts gX4_seenOf_X10_isIn_n35 rfl rfl rfl (hC.2.2.2.1 ("TongueTip$Parts", 35, yX10_isIn, "TongueTip") (List.mem_of_getElem? (i := 6) rfl)) (hC.hts _ zi_X10_isIn) (by decide +kernel) ⟨Nat.le_of_ble_eq_true rfl, Nat.le_of_ble_eq_true rfl⟩, hC.hts _ zs_X10_isIn, trivial⟩ rfl (Nat.le_of_ble_eq_true rfl) (Nat.zero_le _) (Nat.zero_le _) rfl dX4_seenOf_12 (fun r12 enx hw => ?_)
      obtain ⟨rfl, rfl⟩ := hw
      refine G_if_eq hC 30 dX4_seenOf_15 (by decide) (fun c15 => ?_) (fun c15 => ?_)
      · have h := ifp c15 h
        refine G_lv [0, 1, 2, 3] rfl ?_
        exact hB30 _ _ _ h
      have h := ifn c15 h
      refine G_iload_n hC 2 2 rfl rfl dX4_seenOf_18 ?_
      refine G_aload_n hC 0 0 rfl rfl dX4_seenOf_19 ?_
      refine G_get hC inX1 1 (by omega) (v := .ref (ad (2))) (H_now 0 (by decide)) rfl 0 (by decide) m9 rfl rfl dX4_seenOf_20 ?_
      refine G_iload_n hC 3 3 rfl rfl dX4_seenOf_23 ?_
      refine G_iconst hC (v := 5) (by decide) dX4_seenOf_24 ?_
      obtain ⟨q25, h25, h⟩ := bnd h
      refine G_cVi (st := [.int x2]) hC _ (1 + 1) (by omega) (c_X8_number (pp := 1 + 1) l (by omega) (H_now 1 (by decide)) (H_now 2 (by decide)) h25) (cwV 2 hC.hts gX4_seenOf_X8_number rfl rfl rfl (by decide +kernel) ⟨Nat.le_of_ble_eq_true rfl, Nat.le_of_ble_eq_true rfl⟩) (H_now 1 (by decide)) rfl rfl (Nat.le_of_ble_eq_true rfl) (Nat.zero_le _) (Nat.zero_le _) rfl dX4_seenOf_25 (fun r25 enx hw => ?_)
      obtain ⟨rfl, rfl⟩ := hw
      refine G_iadd hC dX4_seenOf_28 ?_
      refine G_istore_n hC 2 [(2, .int (x2 + q25)), (0, .ref (ad 1)), (1, .int x1), (3, .int x3)] rfl (by decide) rfl dX4_seenOf_29 ?_
      refine G_lv [1, 2, 0, 3] rfl ?_
      exact hB30 _ _ _ h
  unfold f_X4_seenOf at h
  refine G_iconst hC (v := 0) (by decide) dX4_seenOf_0 ?_
  refine G_istore_n hC 2 [(2, .int (0 : Int32)), (0, .ref (ad 1)), (1, .int x1)] rfl (by decide) rfl dX4_seenOf_1 ?_
  refine G_iconst hC (v := 0) (by decide) dX4_seenOf_2 ?_
  refine G_istore_n hC 3 [(3, .int (0 : Int32)), (2, .int (0 : Int32)), (0, .ref (ad 1)), (1, .int x1)] rfl (by decide) rfl dX4_seenOf_3 ?_
  refine G_lv [2, 3, 1, 0] rfl ?_
  exact hL4 FU _ _ _ h
def f_X4_alikeIn_B47 (now : HallV) (rL6 : Int32 → Int32 → Int32 → Int32 → Int32 → Option (Int32)) (x1 : Int32) (x2 : Int32) (x3 : Int32) (x4 : Int32) (x5 : Int32) : Option (Int32) := rL6 x1 x2 x3 x4 (x5 + (1 : Int32))
def f_X4_alikeIn_L6 (now : HallV)  : Nat → Int32 → Int32 → Int32 → Int32 → Int32 → Option (Int32)
  | 0, _, _, _, _, _ => none
  | fu + 1, x1, x2, x3, x4, x5 => if (12 : Int32) ≤ x5 then (some x4) else (Option.bind (f_X10_isIn x1 x5) (fun q16 => if q16 = 0 then (f_X4_alikeIn_B47 now (f_X4_alikeIn_L6 now fu) x1 x2 x3 x4 x5) else (Option.bind (f_X1_partOf now x5 x3) (fun q26 => Option.bind (f_X1_partOf now x2 x3) (fun q32 => if q26 = q32 then (f_X4_alikeIn_B47 now (f_X4_alikeIn_L6 now fu) x1 x2 x3 (x4 ||| ((1 : Int32) <<< (x5 &&& (31 : Int32)))) x5) else (f_X4_alikeIn_B47 now (f_X4_alikeIn_L6 now fu) x1 x2 x3 x4 x5))))))
def f_X4_alikeIn (now : HallV) (x1 : Int32) (x2 : Int32) (x3 : Int32) : Option (Int32) := f_X4_alikeIn_L6 now FU x1 x2 x3 (0 : Int32) (0 : Int32)
set_option maxHeartbeats 4000000 in
set_option maxRecDepth 100000 in
theorem c_X4_alikeIn {D : va_G} {cs : Nat → ClassId} {sa : Nat → Nat} {n : Nat} {ad : Nat → Nat} {A : Nat → Prop} (l : Launch) {en : Nat → va_E}  {now : HallV} {x1 : Int32} {x2 : Int32} {x3 : Int32}  {q : Int32} (hn : 110 ≤ n) (H_now : Hall cs ad en 1 now) (h : f_X4_alikeIn now x1 x2 x3 = some q) : Met l yX4_alikeIn wsX4_alikeIn { frames := 3, cells := 0, slots := 0, locals := 66 } (va_Pc [.ref (ad 1), .int x1, .int x2, .int x3] (Wd D cs sa n ad A en)) (va_Qi (fun r u => q = r ∧ en = u) (Wd D cs sa n ad A) A) 0 0 A := by
  refine G_startI cX4_alikeIn 6 [(0, .ref (ad 1)), (1, .int x1), (2, .int x2), (3, .int x3)] (by decide) rfl (Nat.le_of_ble_eq_true rfl) rfl ?_
  intro p e s m args below meth c Q hC hnm Kr
  have zi_X10_isIn : Cond.initialized RX10 ∈ wsX4_alikeIn := by decide +kernel
  have zs_X10_isIn : Cond.static yX10_isIn ∈ wsX4_alikeIn := by decide +kernel
  have hL6 : ∀ (fu6 : Nat), ∀ (x1 : Int32) (x2 : Int32) (x3 : Int32) (x4 : Int32) (x5 : Int32), f_X4_alikeIn_L6 now fu6 x1 x2 x3 x4 x5 = some q → G p l e ({ frames := 3, cells := 0, slots := 0, locals := 66 } : Room) s m args below meth c D n ad A 6 0 0 Q en 6 [(0, .ref (ad 1)), (1, .int x1), (2, .int x2), (3, .int x3), (4, .int x4), (5, .int x5)] [] := by
    intro fu6
    induction fu6 with
    | zero =>
      intro x1 x2 x3 x4 x5 h
      rw [f_X4_alikeIn_L6] at h
      cases h
    | succ fu6 ih6 =>
      have hB47 : ∀ (x1 : Int32) (x2 : Int32) (x3 : Int32) (x4 : Int32) (x5 : Int32), f_X4_alikeIn_B47 now (f_X4_alikeIn_L6 now fu6) x1 x2 x3 x4 x5 = some q → G p l e ({ frames := 3, cells := 0, slots := 0, locals := 66 } : Room) s m args below meth c D n ad A 6 0 0 Q en 47 [(0, .ref (ad 1)), (1, .int x1), (2, .int x2), (3, .int x3), (4, .int x4), (5, .int x5)] [] := by
        intro x1 x2 x3 x4 x5 h
        unfold f_X4_alikeIn_B47 at h
        refine G_iinc hC 5 5 [(5, .int (x5 + (1 : Int32))), (0, .ref (ad 1)), (1, .int x1), (2, .int x2), (3, .int x3), (4, .int x4)] rfl rfl (by decide) rfl dX4_alikeIn_47 ?_
        refine G_goto hC 6 dX4_alikeIn_50 (by decide) ?_
        refine G_lv [1, 2, 3, 4, 5, 0] rfl ?_
        exact ih6 _ _ _ _ _ h
      intro x1 x2 x3 x4 x5 h
      rw [f_X4_alikeIn_L6] at h
      refine G_iload hC 5 5 rfl dX4_alikeIn_6 ?_
      refine G_bipush hC (v := 12) (by decide) dX4_alikeIn_8 ?_
      refine G_icmp_ge hC 53 dX4_alikeIn_10 (by decide) (fun c10 => ?_) (fun c10 => ?_)
      · have h := ifp c10 h
        refine G_iload hC 4 4 rfl dX4_alikeIn_53 ?_
        have h := Option.some.inj h
        subst h
        exact Kr _ _ _ _ (nar_i _) ⟨rfl, rfl⟩ dX4_alikeIn_55
      have h := ifn c10 h
      refine G_iload_n hC 1 1 rfl rfl dX4_alikeIn_13 ?_
      refine G_iload hC 5 5 rfl dX4_alikeIn_14 ?_
      obtain ⟨q16, h16, h⟩ := bnd h
      refine G_cNi (st := []) hC _ (c_X10_isIn  l  h16) ⟨va_cnB 2 hC.hts gX4_alikeIn_X10_isIn_n35 rfl rfl rfl (hC.2.2.2.1 ("TongueTip$Parts", 35, yX10_isIn, "TongueTip") (List.mem_of_getElem? (i := 6) rfl)) (hC.hts _ zi_X10_isIn) (by decide +kernel) ⟨Nat.le_of_ble_eq_true rfl, Nat.le_of_ble_eq_true rfl⟩, hC.hts _ zs_X10_isIn, trivial⟩ rfl (Nat.le_of_ble_eq_true rfl) (Nat.zero_le _) (Nat.zero_le _) rfl dX4_alikeIn_16 (fun r16 enx hw => ?_)
      obtain ⟨rfl, rfl⟩ := hw
      refine G_if_eq hC 47 dX4_alikeIn_19 (by decide) (fun c19 => ?_) (fun c19 => ?_)
      · have h := ifp c19 h
        refine G_lv [0, 1, 2, 3, 4, 5] rfl ?_
        exact hB47 _ _ _ _ _ h
      have h := ifn c19 h
      refine G_aload_n hC 0 0 rfl rfl dX4_alikeIn_22 ?_
      refine G_iload hC 5 5 rfl dX4_alikeIn_23 ?_
      refine G_iload_n hC 3 3 rfl rfl dX4_alikeIn_25 ?_
      obtain ⟨q26, h26, h⟩ := bnd h
      refine G_cVi (st := []) hC _ 1 (by omega) (c_X1_partOf (kk := 1) l (by omega) H_now h26) (cwV 2 hC.hts gX4_alikeIn_X1_partOf rfl rfl rfl (by decide +kernel) ⟨Nat.le_of_ble_eq_true rfl, Nat.le_of_ble_eq_true rfl⟩) (H_now 0 (by decide)) rfl rfl (Nat.le_of_ble_eq_true rfl) (Nat.zero_le _) (Nat.zero_le _) rfl dX4_alikeIn_26 (fun r26 enx hw => ?_)
      obtain ⟨rfl, rfl⟩ := hw
      refine G_aload_n hC 0 0 rfl rfl dX4_alikeIn_29 ?_
      refine G_iload_n hC 2 2 rfl rfl dX4_alikeIn_30 ?_
      refine G_iload_n hC 3 3 rfl rfl dX4_alikeIn_31 ?_
      obtain ⟨q32, h32, h⟩ := bnd h
      refine G_cVi (st := [.int q26]) hC _ 1 (by omega) (c_X1_partOf (kk := 1) l (by omega) H_now h32) (cwV 2 hC.hts gX4_alikeIn_X1_partOf rfl rfl rfl (by decide +kernel) ⟨Nat.le_of_ble_eq_true rfl, Nat.le_of_ble_eq_true rfl⟩) (H_now 0 (by decide)) rfl rfl (Nat.le_of_ble_eq_true rfl) (Nat.zero_le _) (Nat.zero_le _) rfl dX4_alikeIn_32 (fun r32 enx hw => ?_)
      obtain ⟨rfl, rfl⟩ := hw
      refine G_icmp_ne hC 47 dX4_alikeIn_35 (by decide) (fun c35 => ?_) (fun c35 => ?_)
      · have h := ifn c35 h
        refine G_lv [0, 1, 2, 3, 4, 5] rfl ?_
        exact hB47 _ _ _ _ _ h
      have h := ifp c35 h
      refine G_iload hC 4 4 rfl dX4_alikeIn_38 ?_
      refine G_iconst hC (v := 1) (by decide) dX4_alikeIn_40 ?_
      refine G_iload hC 5 5 rfl dX4_alikeIn_41 ?_
      refine G_ishl hC dX4_alikeIn_43 ?_
      refine G_ior hC dX4_alikeIn_44 ?_
      refine G_istore hC 4 [(4, .int (x4 ||| ((1 : Int32) <<< (x5 &&& (31 : Int32))))), (0, .ref (ad 1)), (1, .int x1), (2, .int x2), (3, .int x3), (5, .int x5)] (by decide) rfl dX4_alikeIn_45 ?_
      refine G_lv [1, 2, 3, 4, 0, 5] rfl ?_
      exact hB47 _ _ _ _ _ h
  unfold f_X4_alikeIn at h
  refine G_iconst hC (v := 0) (by decide) dX4_alikeIn_0 ?_
  refine G_istore hC 4 [(4, .int (0 : Int32)), (0, .ref (ad 1)), (1, .int x1), (2, .int x2), (3, .int x3)] (by decide) rfl dX4_alikeIn_1 ?_
  refine G_iconst hC (v := 0) (by decide) dX4_alikeIn_3 ?_
  refine G_istore hC 5 [(5, .int (0 : Int32)), (4, .int (0 : Int32)), (0, .ref (ad 1)), (1, .int x1), (2, .int x2), (3, .int x3)] (by decide) rfl dX4_alikeIn_4 ?_
  refine G_lv [2, 3, 4, 5, 1, 0] rfl ?_
  exact hL6 FU _ _ _ _ _ h
def f_X4_leftInMean_B51 (now : HallV) (rL5 : Int32 → Int32 → Int32 → Int32 → Option (Int32)) (x1 : Int32) (x2 : Int32) (x3 : Int32) (x4 : Int32) : Option (Int32) := rL5 x1 x2 x3 (x4 + (1 : Int32))
def f_X4_leftInMean_L5 (now : HallV)  : Nat → Int32 → Int32 → Int32 → Int32 → Option (Int32)
  | 0, _, _, _, _ => none
  | fu + 1, x1, x2, x3, x4 => if (12 : Int32) ≤ x4 then (some x3) else (Option.bind (f_X10_isIn x1 x4) (fun q15 => if q15 = 0 then (f_X4_leftInMean_B51 now (f_X4_leftInMean_L5 now fu) x1 x2 x3 x4) else (Option.bind (f_X4_alikeIn now x1 x4 x2) (fun q27 => Option.bind (f_X4_seenOf now q27) (fun q30 => Option.bind (f_X8_number (7 : Int32) 84 (now.2.1 0) x4 (5 : Int32)) (fun q45 => f_X4_leftInMean_B51 now (f_X4_leftInMean_L5 now fu) x1 x2 (x3 + (q30 * q45)) x4))))))
def f_X4_leftInMean (now : HallV) (x1 : Int32) (x2 : Int32) : Option (Int32) := f_X4_leftInMean_L5 now FU x1 x2 (0 : Int32) (0 : Int32)
set_option maxHeartbeats 4000000 in
set_option maxRecDepth 100000 in
theorem c_X4_leftInMean {D : va_G} {cs : Nat → ClassId} {sa : Nat → Nat} {n : Nat} {ad : Nat → Nat} {A : Nat → Prop} (l : Launch) {en : Nat → va_E}  {now : HallV} {x1 : Int32} {x2 : Int32}  {q : Int32} (hn : 110 ≤ n) (H_now : Hall cs ad en 1 now) (h : f_X4_leftInMean now x1 x2 = some q) : Met l yX4_leftInMean wsX4_leftInMean { frames := 4, cells := 0, slots := 0, locals := 91 } (va_Pc [.ref (ad 1), .int x1, .int x2] (Wd D cs sa n ad A en)) (va_Qi (fun r u => q = r ∧ en = u) (Wd D cs sa n ad A) A) 0 0 A := by
  refine G_startI cX4_leftInMean 6 [(0, .ref (ad 1)), (1, .int x1), (2, .int x2)] (by decide) rfl (Nat.le_of_ble_eq_true rfl) rfl ?_
  intro p e s m args below meth c Q hC hnm Kr
  have inX1 : ∀ w ∈ u_ws RX1 TX1 6, w ∈ wsX4_leftInMean := by decide +kernel
  have m9 : Cond.fieldLink RX4 9 "TongueTip$Hall" "people" "LTongueTip$Table;" ∈ wsX4_leftInMean := by decide +kernel
  have zi_X10_isIn : Cond.initialized RX10 ∈ wsX4_leftInMean := by decide +kernel
  have zs_X10_isIn : Cond.static yX10_isIn ∈ wsX4_leftInMean := by decide +kernel
  have hL5 : ∀ (fu5 : Nat), ∀ (x1 : Int32) (x2 : Int32) (x3 : Int32) (x4 : Int32), f_X4_leftInMean_L5 now fu5 x1 x2 x3 x4 = some q → G p l e ({ frames := 4, cells := 0, slots := 0, locals := 91 } : Room) s m args below meth c D n ad A 6 0 0 Q en 5 [(0, .ref (ad 1)), (1, .int x1), (2, .int x2), (3, .int x3), (4, .int x4)] [] := by
    intro fu5
    induction fu5 with
    | zero =>
      intro x1 x2 x3 x4 h
      rw [f_X4_leftInMean_L5] at h
      cases h
    | succ fu5 ih5 =>
      have hB51 : ∀ (x1 : Int32) (x2 : Int32) (x3 : Int32) (x4 : Int32), f_X4_leftInMean_B51 now (f_X4_leftInMean_L5 now fu5) x1 x2 x3 x4 = some q → G p l e ({ frames := 4, cells := 0, slots := 0, locals := 91 } : Room) s m args below meth c D n ad A 6 0 0 Q en 51 [(0, .ref (ad 1)), (1, .int x1), (2, .int x2), (3, .int x3), (4, .int x4)] [] := by
        intro x1 x2 x3 x4 h
        unfold f_X4_leftInMean_B51 at h
        refine G_iinc hC 4 4 [(4, .int (x4 + (1 : Int32))), (0, .ref (ad 1)), (1, .int x1), (2, .int x2), (3, .int x3)] rfl rfl (by decide) rfl dX4_leftInMean_51 ?_
        refine G_goto hC 5 dX4_leftInMean_54 (by decide) ?_
        refine G_lv [1, 2, 3, 4, 0] rfl ?_
        exact ih5 _ _ _ _ h
      intro x1 x2 x3 x4 h
      rw [f_X4_leftInMean_L5] at h
      refine G_iload hC 4 4 rfl dX4_leftInMean_5 ?_
      refine G_bipush hC (v := 12) (by decide) dX4_leftInMean_7 ?_
      refine G_icmp_ge hC 57 dX4_leftInMean_9 (by decide) (fun c9 => ?_) (fun c9 => ?_)
      · have h := ifp c9 h
        refine G_iload_n hC 3 3 rfl rfl dX4_leftInMean_57 ?_
        have h := Option.some.inj h
        subst h
        exact Kr _ _ _ _ (nar_i _) ⟨rfl, rfl⟩ dX4_leftInMean_58
      have h := ifn c9 h
      refine G_iload_n hC 1 1 rfl rfl dX4_leftInMean_12 ?_
      refine G_iload hC 4 4 rfl dX4_leftInMean_13 ?_
      obtain ⟨q15, h15, h⟩ := bnd h
      refine G_cNi (st := []) hC _ (c_X10_isIn  l  h15) ⟨va_cnB 2 hC.hts gX4_leftInMean_X10_isIn_n35 rfl rfl rfl (hC.2.2.2.1 ("TongueTip$Parts", 35, yX10_isIn, "TongueTip") (List.mem_of_getElem? (i := 6) rfl)) (hC.hts _ zi_X10_isIn) (by decide +kernel) ⟨Nat.le_of_ble_eq_true rfl, Nat.le_of_ble_eq_true rfl⟩, hC.hts _ zs_X10_isIn, trivial⟩ rfl (Nat.le_of_ble_eq_true rfl) (Nat.zero_le _) (Nat.zero_le _) rfl dX4_leftInMean_15 (fun r15 enx hw => ?_)
      obtain ⟨rfl, rfl⟩ := hw
      refine G_if_eq hC 51 dX4_leftInMean_18 (by decide) (fun c18 => ?_) (fun c18 => ?_)
      · have h := ifp c18 h
        refine G_lv [0, 1, 2, 3, 4] rfl ?_
        exact hB51 _ _ _ _ h
      have h := ifn c18 h
      refine G_aload_n hC 0 0 rfl rfl dX4_leftInMean_21 ?_
      refine G_aload_n hC 0 0 rfl rfl dX4_leftInMean_22 ?_
      refine G_iload_n hC 1 1 rfl rfl dX4_leftInMean_23 ?_
      refine G_iload hC 4 4 rfl dX4_leftInMean_24 ?_
      refine G_iload_n hC 2 2 rfl rfl dX4_leftInMean_26 ?_
      obtain ⟨q27, h27, h⟩ := bnd h
      refine G_cSi (st := [.ref (ad 1)]) hC _ (c_X4_alikeIn  l (by omega) H_now h27) (va_cwS 4 hC.hts gX4_leftInMean_X4_alikeIn rfl rfl rfl (by decide +kernel) ⟨Nat.le_of_ble_eq_true rfl, Nat.le_of_ble_eq_true rfl⟩) rfl (Nat.le_of_ble_eq_true rfl) (Nat.zero_le _) (Nat.zero_le _) rfl dX4_leftInMean_27 (fun r27 enx hw => ?_)
      obtain ⟨rfl, rfl⟩ := hw
      obtain ⟨q30, h30, h⟩ := bnd h
      refine G_cSi (st := []) hC _ (c_X4_seenOf  l (by omega) H_now h30) (va_cwS 2 hC.hts gX4_leftInMean_X4_seenOf rfl rfl rfl (by decide +kernel) ⟨Nat.le_of_ble_eq_true rfl, Nat.le_of_ble_eq_true rfl⟩) rfl (Nat.le_of_ble_eq_true rfl) (Nat.zero_le _) (Nat.zero_le _) rfl dX4_leftInMean_30 (fun r30 enx hw => ?_)
      obtain ⟨rfl, rfl⟩ := hw
      refine G_istore hC 5 [(5, .int q30), (0, .ref (ad 1)), (1, .int x1), (2, .int x2), (3, .int x3), (4, .int x4)] (by decide) rfl dX4_leftInMean_33 ?_
      refine G_iload_n hC 3 4 rfl rfl dX4_leftInMean_35 ?_
      refine G_iload hC 5 0 rfl dX4_leftInMean_36 ?_
      refine G_aload_n hC 0 1 rfl rfl dX4_leftInMean_38 ?_
      refine G_get hC inX1 1 (by omega) (v := .ref (ad (2))) (H_now 0 (by decide)) rfl 0 (by decide) m9 rfl rfl dX4_leftInMean_39 ?_
      refine G_iload hC 4 5 rfl dX4_leftInMean_42 ?_
      refine G_iconst hC (v := 5) (by decide) dX4_leftInMean_44 ?_
      obtain ⟨q45, h45, h⟩ := bnd h
      refine G_cVi (st := [.int q30, .int x3]) hC _ (1 + 1) (by omega) (c_X8_number (pp := 1 + 1) l (by omega) (H_now 1 (by decide)) (H_now 2 (by decide)) h45) (cwV 2 hC.hts gX4_leftInMean_X8_number rfl rfl rfl (by decide +kernel) ⟨Nat.le_of_ble_eq_true rfl, Nat.le_of_ble_eq_true rfl⟩) (H_now 1 (by decide)) rfl rfl (Nat.le_of_ble_eq_true rfl) (Nat.zero_le _) (Nat.zero_le _) rfl dX4_leftInMean_45 (fun r45 enx hw => ?_)
      obtain ⟨rfl, rfl⟩ := hw
      refine G_imul hC dX4_leftInMean_48 ?_
      refine G_iadd hC dX4_leftInMean_49 ?_
      refine G_istore_n hC 3 [(3, .int (x3 + (q30 * q45))), (5, .int q30), (0, .ref (ad 1)), (1, .int x1), (2, .int x2), (4, .int x4)] rfl (by decide) rfl dX4_leftInMean_50 ?_
      refine G_lv [2, 3, 4, 0, 5] rfl ?_
      exact hB51 _ _ _ _ h
  unfold f_X4_leftInMean at h
  refine G_iconst hC (v := 0) (by decide) dX4_leftInMean_0 ?_
  refine G_istore_n hC 3 [(3, .int (0 : Int32)), (0, .ref (ad 1)), (1, .int x1), (2, .int x2)] rfl (by decide) rfl dX4_leftInMean_1 ?_
  refine G_iconst hC (v := 0) (by decide) dX4_leftInMean_2 ?_
  refine G_istore hC 4 [(4, .int (0 : Int32)), (3, .int (0 : Int32)), (0, .ref (ad 1)), (1, .int x1), (2, .int x2)] (by decide) rfl dX4_leftInMean_3 ?_
  refine G_lv [2, 3, 4, 1, 0] rfl ?_
  exact hL5 FU _ _ _ _ h
def f_X4_nextPart_B49 (now : HallV) (rL7 : Int32 → Int32 → Int32 → Int32 → Option (Int32)) (x1 : Int32) (x2 : Int32) (x3 : Int32) (x4 : Int32) : Option (Int32) := rL7 x1 x2 x3 (x4 + (1 : Int32))
def f_X4_nextPart_B43 (now : HallV) (rL7 : Int32 → Int32 → Int32 → Int32 → Option (Int32)) (x1 : Int32) (x4 : Int32) (x5 : Int32) : Option (Int32) := f_X4_nextPart_B49 now rL7 x1 x4 x5 x4
def f_X4_nextPart_L7 (now : HallV)  : Nat → Int32 → Int32 → Int32 → Int32 → Option (Int32)
  | 0, _, _, _, _ => none
  | fu + 1, x1, x2, x3, x4 => if (5 : Int32) ≤ x4 then (some x2) else (Option.bind (f_X1_hasOf now x4) (fun q16 => if q16 = (-1 : Int32) then (Option.bind (f_X4_leftInMean now x1 x4) (fun q27 => if x2 = (-1 : Int32) then (f_X4_nextPart_B43 now (f_X4_nextPart_L7 now fu) x1 x4 q27) else (if x3 ≤ q27 then (f_X4_nextPart_B49 now (f_X4_nextPart_L7 now fu) x1 x2 x3 x4) else (f_X4_nextPart_B43 now (f_X4_nextPart_L7 now fu) x1 x4 q27)))) else (f_X4_nextPart_B49 now (f_X4_nextPart_L7 now fu) x1 x2 x3 x4)))
def f_X4_nextPart (now : HallV) (x1 : Int32) : Option (Int32) := f_X4_nextPart_L7 now FU x1 (-1 : Int32) (0 : Int32) (0 : Int32)
set_option maxHeartbeats 4000000 in
set_option maxRecDepth 100000 in
theorem c_X4_nextPart {D : va_G} {cs : Nat → ClassId} {sa : Nat → Nat} {n : Nat} {ad : Nat → Nat} {A : Nat → Prop} (l : Launch) {en : Nat → va_E}  {now : HallV} {x1 : Int32}  {q : Int32} (hn : 110 ≤ n) (H_now : Hall cs ad en 1 now) (h : f_X4_nextPart now x1 = some q) : Met l yX4_nextPart wsX4_nextPart { frames := 5, cells := 0, slots := 0, locals := 116 } (va_Pc [.ref (ad 1), .int x1] (Wd D cs sa n ad A en)) (va_Qi (fun r u => q = r ∧ en = u) (Wd D cs sa n ad A) A) 0 0 A := by
  refine G_startI cX4_nextPart 6 [(0, .ref (ad 1)), (1, .int x1)] (by decide) rfl (Nat.le_of_ble_eq_true rfl) rfl ?_
  intro p e s m args below meth c Q hC hnm Kr
  have hL7 : ∀ (fu7 : Nat), ∀ (x1 : Int32) (x2 : Int32) (x3 : Int32) (x4 : Int32), f_X4_nextPart_L7 now fu7 x1 x2 x3 x4 = some q → G p l e ({ frames := 5, cells := 0, slots := 0, locals := 116 } : Room) s m args below meth c D n ad A 6 0 0 Q en 7 [(0, .ref (ad 1)), (1, .int x1), (2, .int x2), (3, .int x3), (4, .int x4)] [] := by
    intro fu7
    induction fu7 with
    | zero =>
      intro x1 x2 x3 x4 h
      rw [f_X4_nextPart_L7] at h
      cases h
    | succ fu7 ih7 =>
      have hB49 : ∀ (x1 : Int32) (x2 : Int32) (x3 : Int32) (x4 : Int32), f_X4_nextPart_B49 now (f_X4_nextPart_L7 now fu7) x1 x2 x3 x4 = some q → G p l e ({ frames := 5, cells := 0, slots := 0, locals := 116 } : Room) s m args below meth c D n ad A 6 0 0 Q en 49 [(0, .ref (ad 1)), (1, .int x1), (2, .int x2), (3, .int x3), (4, .int x4)] [] := by
        intro x1 x2 x3 x4 h
        unfold f_X4_nextPart_B49 at h
        refine G_iinc hC 4 4 [(4, .int (x4 + (1 : Int32))), (0, .ref (ad 1)), (1, .int x1), (2, .int x2), (3, .int x3)] rfl rfl (by decide) rfl dX4_nextPart_49 ?_
        refine G_goto hC 7 dX4_nextPart_52 (by decide) ?_
        refine G_lv [1, 2, 3, 4, 0] rfl ?_
        exact ih7 _ _ _ _ h
      have hB43 : ∀ (x1 : Int32) (x4 : Int32) (x5 : Int32), f_X4_nextPart_B43 now (f_X4_nextPart_L7 now fu7) x1 x4 x5 = some q → G p l e ({ frames := 5, cells := 0, slots := 0, locals := 116 } : Room) s m args below meth c D n ad A 6 0 0 Q en 43 [(0, .ref (ad 1)), (1, .int x1), (4, .int x4), (5, .int x5)] [] := by
        intro x1 x4 x5 h
        unfold f_X4_nextPart_B43 at h
        refine G_iload hC 4 2 rfl dX4_nextPart_43 ?_
        refine G_istore_n hC 2 [(2, .int x4), (0, .ref (ad 1)), (1, .int x1), (4, .int x4), (5, .int x5)] rfl (by decide) rfl dX4_nextPart_45 ?_
        refine G_iload hC 5 4 rfl dX4_nextPart_46 ?_
        refine G_istore_n hC 3 [(3, .int x5), (2, .int x4), (0, .ref (ad 1)), (1, .int x1), (4, .int x4), (5, .int x5)] rfl (by decide) rfl dX4_nextPart_48 ?_
        refine G_lv [2, 3, 1, 0, 4] rfl ?_
        exact hB49 _ _ _ _ h
      intro x1 x2 x3 x4 h
      rw [f_X4_nextPart_L7] at h
      refine G_iload hC 4 4 rfl dX4_nextPart_7 ?_
      refine G_iconst hC (v := 5) (by decide) dX4_nextPart_9 ?_
      refine G_icmp_ge hC 55 dX4_nextPart_10 (by decide) (fun c10 => ?_) (fun c10 => ?_)
      · have h := ifp c10 h
        refine G_iload_n hC 2 2 rfl rfl dX4_nextPart_55 ?_
        have h := Option.some.inj h
        subst h
        exact Kr _ _ _ _ (nar_i _) ⟨rfl, rfl⟩ dX4_nextPart_56
      have h := ifn c10 h
      refine G_aload_n hC 0 0 rfl rfl dX4_nextPart_13 ?_
      refine G_iload hC 4 4 rfl dX4_nextPart_14 ?_
      obtain ⟨q16, h16, h⟩ := bnd h
      refine G_cVi (st := []) hC _ 1 (by omega) (c_X1_hasOf (kk := 1) l (by omega) H_now h16) (cwV 1 hC.hts gX4_nextPart_X1_hasOf rfl rfl rfl (by decide +kernel) ⟨Nat.le_of_ble_eq_true rfl, Nat.le_of_ble_eq_true rfl⟩) (H_now 0 (by decide)) rfl rfl (Nat.le_of_ble_eq_true rfl) (Nat.zero_le _) (Nat.zero_le _) rfl dX4_nextPart_16 (fun r16 enx hw => ?_)
      obtain ⟨rfl, rfl⟩ := hw
      refine G_iconst hC (v := (-1)) (by decide) dX4_nextPart_19 ?_
      refine G_icmp_ne hC 49 dX4_nextPart_20 (by decide) (fun c20 => ?_) (fun c20 => ?_)
      · have h := ifn c20 h
        refine G_lv [0, 1, 2, 3, 4] rfl ?_
        exact hB49 _ _ _ _ h
      have h := ifp c20 h
      refine G_aload_n hC 0 0 rfl rfl dX4_nextPart_23 ?_
      refine G_iload_n hC 1 1 rfl rfl dX4_nextPart_24 ?_
      refine G_iload hC 4 4 rfl dX4_nextPart_25 ?_
      obtain ⟨q27, h27, h⟩ := bnd h
      refine G_cSi (st := []) hC _ (c_X4_leftInMean  l (by omega) H_now h27) (va_cwS 3 hC.hts gX4_nextPart_X4_leftInMean rfl rfl rfl (by decide +kernel) ⟨Nat.le_of_ble_eq_true rfl, Nat.le_of_ble_eq_true rfl⟩) rfl (Nat.le_of_ble_eq_true rfl) (Nat.zero_le _) (Nat.zero_le _) rfl dX4_nextPart_27 (fun r27 enx hw => ?_)
      obtain ⟨rfl, rfl⟩ := hw
      refine G_istore hC 5 [(5, .int q27), (0, .ref (ad 1)), (1, .int x1), (2, .int x2), (3, .int x3), (4, .int x4)] (by decide) rfl dX4_nextPart_30 ?_
      refine G_iload_n hC 2 3 rfl rfl dX4_nextPart_32 ?_
      refine G_iconst hC (v := (-1)) (by decide) dX4_nextPart_33 ?_
      refine G_icmp_eq hC 43 dX4_nextPart_34 (by decide) (fun c34 => ?_) (fun c34 => ?_)
      · have h := ifp c34 h
        refine G_lv [1, 2, 5, 0] rfl ?_
        exact hB43 _ _ _ h
      have h := ifn c34 h
      refine G_iload hC 5 0 rfl dX4_nextPart_37 ?_
      refine G_iload_n hC 3 4 rfl rfl dX4_nextPart_39 ?_
      refine G_icmp_ge hC 49 dX4_nextPart_40 (by decide) (fun c40 => ?_) (fun c40 => ?_)
      · have h := ifp c40 h
        refine G_lv [1, 2, 3, 4, 5] rfl ?_
        exact hB49 _ _ _ _ h
      have h := ifn c40 h
      refine G_lv [1, 2, 5, 0] rfl ?_
      exact hB43 _ _ _ h
  unfold f_X4_nextPart at h
  refine G_iconst hC (v := (-1)) (by decide) dX4_nextPart_0 ?_
  refine G_istore_n hC 2 [(2, .int (-1 : Int32)), (0, .ref (ad 1)), (1, .int x1)] rfl (by decide) rfl dX4_nextPart_1 ?_
  refine G_iconst hC (v := 0) (by decide) dX4_nextPart_2 ?_
  refine G_istore_n hC 3 [(3, .int (0 : Int32)), (2, .int (-1 : Int32)), (0, .ref (ad 1)), (1, .int x1)] rfl (by decide) rfl dX4_nextPart_3 ?_
  refine G_iconst hC (v := 0) (by decide) dX4_nextPart_4 ?_
  refine G_istore hC 4 [(4, .int (0 : Int32)), (3, .int (0 : Int32)), (2, .int (-1 : Int32)), (0, .ref (ad 1)), (1, .int x1)] (by decide) rfl dX4_nextPart_5 ?_
  refine G_lv [3, 4, 2, 1, 0] rfl ?_
  exact hL7 FU _ _ _ _ h
def f_X4_bestQuestion_B99 (now : HallV) (rL10 : Int32 → Int32 → Int32 → Int32 → Int32 → Option (Int32)) (x1 : Int32) (x2 : Int32) (x3 : Int32) (x4 : Int32) (x5 : Int32) : Option (Int32) := rL10 x1 x2 x3 x4 (x5 + (1 : Int32))
def f_X4_bestQuestion_B89 (now : HallV) (rL10 : Int32 → Int32 → Int32 → Int32 → Int32 → Option (Int32)) (x1 : Int32) (x5 : Int32) (x7 : Int32) (x8 : Int32) : Option (Int32) := f_X4_bestQuestion_B99 now rL10 x1 x5 x8 x7 x5
def f_X4_bestQuestion_L10 (now : HallV)  : Nat → Int32 → Int32 → Int32 → Int32 → Int32 → Option (Int32)
  | 0, _, _, _, _, _ => none
  | fu + 1, x1, x2, x3, x4, x5 => Option.bind (f_X8_size (now.1 2)) (fun q16 => if q16 ≤ x5 then (some x2) else (Option.bind (f_X8_number (2 : Int32) 12 (now.2.1 2) x5 (0 : Int32)) (fun q29 => Option.bind (f_X8_number (2 : Int32) 12 (now.2.1 2) x5 (1 : Int32)) (fun q41 => Option.bind (f_X1_hasOf now q29) (fun q49 => if q49 = (-1 : Int32) then (Option.bind (f_X4_leftInMean now x1 q29) (fun q60 => if x2 = (-1 : Int32) then (f_X4_bestQuestion_B89 now (f_X4_bestQuestion_L10 now fu) x1 x5 q41 q60) else (if q60 < x3 then (f_X4_bestQuestion_B89 now (f_X4_bestQuestion_L10 now fu) x1 x5 q41 q60) else (if q60 = x3 then (if x4 ≤ q41 then (f_X4_bestQuestion_B99 now (f_X4_bestQuestion_L10 now fu) x1 x2 x3 x4 x5) else (f_X4_bestQuestion_B89 now (f_X4_bestQuestion_L10 now fu) x1 x5 q41 q60)) else (f_X4_bestQuestion_B99 now (f_X4_bestQuestion_L10 now fu) x1 x2 x3 x4 x5))))) else (f_X4_bestQuestion_B99 now (f_X4_bestQuestion_L10 now fu) x1 x2 x3 x4 x5))))))
def f_X4_bestQuestion (now : HallV) (x1 : Int32) : Option (Int32) := f_X4_bestQuestion_L10 now FU x1 (-1 : Int32) (0 : Int32) (0 : Int32) (0 : Int32)
set_option maxHeartbeats 4000000 in
set_option maxRecDepth 100000 in
theorem c_X4_bestQuestion {D : va_G} {cs : Nat → ClassId} {sa : Nat → Nat} {n : Nat} {ad : Nat → Nat} {A : Nat → Prop} (l : Launch) {en : Nat → va_E}  {now : HallV} {x1 : Int32}  {q : Int32} (hn : 110 ≤ n) (H_now : Hall cs ad en 1 now) (h : f_X4_bestQuestion now x1 = some q) : Met l yX4_bestQuestion wsX4_bestQuestion { frames := 5, cells := 0, slots := 0, locals := 116 } (va_Pc [.ref (ad 1), .int x1] (Wd D cs sa n ad A en)) (va_Qi (fun r u => q = r ∧ en = u) (Wd D cs sa n ad A) A) 0 0 A := by
  refine G_startI cX4_bestQuestion 9 [(0, .ref (ad 1)), (1, .int x1)] (by decide) rfl (Nat.le_of_ble_eq_true rfl) rfl ?_
  intro p e s m args below meth c Q hC hnm Kr
  have inX1 : ∀ w ∈ u_ws RX1 TX1 6, w ∈ wsX4_bestQuestion := by decide +kernel
  have m54 : Cond.fieldLink RX4 54 "TongueTip$Hall" "questions" "LTongueTip$Table;" ∈ wsX4_bestQuestion := by decide +kernel
  have hL10 : ∀ (fu10 : Nat), ∀ (x1 : Int32) (x2 : Int32) (x3 : Int32) (x4 : Int32) (x5 : Int32), f_X4_bestQuestion_L10 now fu10 x1 x2 x3 x4 x5 = some q → G p l e ({ frames := 5, cells := 0, slots := 0, locals := 116 } : Room) s m args below meth c D n ad A 9 0 0 Q en 10 [(0, .ref (ad 1)), (1, .int x1), (2, .int x2), (3, .int x3), (4, .int x4), (5, .int x5)] [] := by
    intro fu10
    induction fu10 with
    | zero =>
      intro x1 x2 x3 x4 x5 h
      rw [f_X4_bestQuestion_L10] at h
      cases h
    | succ fu10 ih10 =>
      have hB99 : ∀ (x1 : Int32) (x2 : Int32) (x3 : Int32) (x4 : Int32) (x5 : Int32), f_X4_bestQuestion_B99 now (f_X4_bestQuestion_L10 now fu10) x1 x2 x3 x4 x5 = some q → G p l e ({ frames := 5, cells := 0, slots := 0, locals := 116 } : Room) s m args below meth c D n ad A 9 0 0 Q en 99 [(0, .ref (ad 1)), (1, .int x1), (2, .int x2), (3, .int x3), (4, .int x4), (5, .int x5)] [] := by
        intro x1 x2 x3 x4 x5 h
        unfold f_X4_bestQuestion_B99 at h
        refine G_iinc hC 5 5 [(5, .int (x5 + (1 : Int32))), (0, .ref (ad 1)), (1, .int x1), (2, .int x2), (3, .int x3), (4, .int x4)] rfl rfl (by decide) rfl dX4_bestQuestion_99 ?_
        refine G_goto hC 10 dX4_bestQuestion_102 (by decide) ?_
        refine G_lv [1, 2, 3, 4, 5, 0] rfl ?_
        exact ih10 _ _ _ _ _ h
      have hB89 : ∀ (x1 : Int32) (x5 : Int32) (x7 : Int32) (x8 : Int32), f_X4_bestQuestion_B89 now (f_X4_bestQuestion_L10 now fu10) x1 x5 x7 x8 = some q → G p l e ({ frames := 5, cells := 0, slots := 0, locals := 116 } : Room) s m args below meth c D n ad A 9 0 0 Q en 89 [(0, .ref (ad 1)), (1, .int x1), (5, .int x5), (7, .int x7), (8, .int x8)] [] := by
        intro x1 x5 x7 x8 h
        unfold f_X4_bestQuestion_B89 at h
        refine G_iload hC 5 2 rfl dX4_bestQuestion_89 ?_
        refine G_istore_n hC 2 [(2, .int x5), (0, .ref (ad 1)), (1, .int x1), (5, .int x5), (7, .int x7), (8, .int x8)] rfl (by decide) rfl dX4_bestQuestion_91 ?_
        refine G_iload hC 8 5 rfl dX4_bestQuestion_92 ?_
        refine G_istore_n hC 3 [(3, .int x8), (2, .int x5), (0, .ref (ad 1)), (1, .int x1), (5, .int x5), (7, .int x7), (8, .int x8)] rfl (by decide) rfl dX4_bestQuestion_94 ?_
        refine G_iload hC 7 5 rfl dX4_bestQuestion_95 ?_
        refine G_istore hC 4 [(4, .int x7), (3, .int x8), (2, .int x5), (0, .ref (ad 1)), (1, .int x1), (5, .int x5), (7, .int x7), (8, .int x8)] (by decide) rfl dX4_bestQuestion_97 ?_
        refine G_lv [3, 4, 2, 1, 0, 5] rfl ?_
        exact hB99 _ _ _ _ _ h
      intro x1 x2 x3 x4 x5 h
      rw [f_X4_bestQuestion_L10] at h
      refine G_iload hC 5 5 rfl dX4_bestQuestion_10 ?_
      refine G_aload_n hC 0 0 rfl rfl dX4_bestQuestion_12 ?_
      refine G_get hC inX1 1 (by omega) (v := .ref (ad (6))) (H_now 0 (by decide)) rfl 2 (by decide) m54 rfl rfl dX4_bestQuestion_13 ?_
      obtain ⟨q16, h16, h⟩ := bnd h
      refine G_cVi (st := [.int x5]) hC _ (1 + 5) (by omega) (c_X8_size (pp := 1 + 5) l (by omega) (H_now 5 (by decide)) h16) (cwV 0 hC.hts gX4_bestQuestion_X8_size rfl rfl rfl (by decide +kernel) ⟨Nat.le_of_ble_eq_true rfl, Nat.le_of_ble_eq_true rfl⟩) (H_now 5 (by decide)) rfl rfl (Nat.le_of_ble_eq_true rfl) (Nat.zero_le _) (Nat.zero_le _) rfl dX4_bestQuestion_16 (fun r16 enx hw => ?_)
      obtain ⟨rfl, rfl⟩ := hw
      refine G_icmp_ge hC 105 dX4_bestQuestion_19 (by decide) (fun c19 => ?_) (fun c19 => ?_)
      · have h := ifp c19 h
        refine G_iload_n hC 2 2 rfl rfl dX4_bestQuestion_105 ?_
        have h := Option.some.inj h
        subst h
        exact Kr _ _ _ _ (nar_i _) ⟨rfl, rfl⟩ dX4_bestQuestion_106
      have h := ifn c19 h
      refine G_aload_n hC 0 0 rfl rfl dX4_bestQuestion_22 ?_
      refine G_get hC inX1 1 (by omega) (v := .ref (ad (6))) (H_now 0 (by decide)) rfl 2 (by decide) m54 rfl rfl dX4_bestQuestion_23 ?_
      refine G_iload hC 5 5 rfl dX4_bestQuestion_26 ?_
      refine G_iconst hC (v := 0) (by decide) dX4_bestQuestion_28 ?_
      obtain ⟨q29, h29, h⟩ := bnd h
      refine G_cVi (st := []) hC _ (1 + 5) (by omega) (c_X8_number (pp := 1 + 5) l (by omega) (H_now 5 (by decide)) (H_now 6 (by decide)) h29) (cwV 2 hC.hts gX4_bestQuestion_X8_number rfl rfl rfl (by decide +kernel) ⟨Nat.le_of_ble_eq_true rfl, Nat.le_of_ble_eq_true rfl⟩) (H_now 5 (by decide)) rfl rfl (Nat.le_of_ble_eq_true rfl) (Nat.zero_le _) (Nat.zero_le _) rfl dX4_bestQuestion_29 (fun r29 enx hw => ?_)
      obtain ⟨rfl, rfl⟩ := hw
      refine G_istore hC 6 [(6, .int q29), (0, .ref (ad 1)), (1, .int x1), (2, .int x2), (3, .int x3), (4, .int x4), (5, .int x5)] (by decide) rfl dX4_bestQuestion_32 ?_
      refine G_aload_n hC 0 1 rfl rfl dX4_bestQuestion_34 ?_
      refine G_get hC inX1 1 (by omega) (v := .ref (ad (6))) (H_now 0 (by decide)) rfl 2 (by decide) m54 rfl rfl dX4_bestQuestion_35 ?_
      refine G_iload hC 5 6 rfl dX4_bestQuestion_38 ?_
      refine G_iconst hC (v := 1) (by decide) dX4_bestQuestion_40 ?_
      obtain ⟨q41, h41, h⟩ := bnd h
      refine G_cVi (st := []) hC _ (1 + 5) (by omega) (c_X8_number (pp := 1 + 5) l (by omega) (H_now 5 (by decide)) (H_now 6 (by decide)) h41) (cwV 2 hC.hts gX4_bestQuestion_X8_number rfl rfl rfl (by decide +kernel) ⟨Nat.le_of_ble_eq_true rfl, Nat.le_of_ble_eq_true rfl⟩) (H_now 5 (by decide)) rfl rfl (Nat.le_of_ble_eq_true rfl) (Nat.zero_le _) (Nat.zero_le _) rfl dX4_bestQuestion_41 (fun r41 enx hw => ?_)
      obtain ⟨rfl, rfl⟩ := hw
      refine G_istore hC 7 [(7, .int q41), (6, .int q29), (0, .ref (ad 1)), (1, .int x1), (2, .int x2), (3, .int x3), (4, .int x4), (5, .int x5)] (by decide) rfl dX4_bestQuestion_44 ?_
      refine G_aload_n hC 0 2 rfl rfl dX4_bestQuestion_46 ?_
      refine G_iload hC 6 1 rfl dX4_bestQuestion_47 ?_
      obtain ⟨q49, h49, h⟩ := bnd h
      refine G_cVi (st := []) hC _ 1 (by omega) (c_X1_hasOf (kk := 1) l (by omega) H_now h49) (cwV 1 hC.hts gX4_bestQuestion_X1_hasOf rfl rfl rfl (by decide +kernel) ⟨Nat.le_of_ble_eq_true rfl, Nat.le_of_ble_eq_true rfl⟩) (H_now 0 (by decide)) rfl rfl (Nat.le_of_ble_eq_true rfl) (Nat.zero_le _) (Nat.zero_le _) rfl dX4_bestQuestion_49 (fun r49 enx hw => ?_)
      obtain ⟨rfl, rfl⟩ := hw
      refine G_iconst hC (v := (-1)) (by decide) dX4_bestQuestion_52 ?_
      refine G_icmp_ne hC 99 dX4_bestQuestion_53 (by decide) (fun c53 => ?_) (fun c53 => ?_)
      · have h := ifn c53 h
        refine G_lv [2, 3, 4, 5, 6, 7] rfl ?_
        exact hB99 _ _ _ _ _ h
      have h := ifp c53 h
      refine G_aload_n hC 0 2 rfl rfl dX4_bestQuestion_56 ?_
      refine G_iload_n hC 1 3 rfl rfl dX4_bestQuestion_57 ?_
      refine G_iload hC 6 1 rfl dX4_bestQuestion_58 ?_
      obtain ⟨q60, h60, h⟩ := bnd h
      refine G_cSi (st := []) hC _ (c_X4_leftInMean  l (by omega) H_now h60) (va_cwS 3 hC.hts gX4_bestQuestion_X4_leftInMean rfl rfl rfl (by decide +kernel) ⟨Nat.le_of_ble_eq_true rfl, Nat.le_of_ble_eq_true rfl⟩) rfl (Nat.le_of_ble_eq_true rfl) (Nat.zero_le _) (Nat.zero_le _) rfl dX4_bestQuestion_60 (fun r60 enx hw => ?_)
      obtain ⟨rfl, rfl⟩ := hw
      refine G_istore hC 8 [(8, .int q60), (7, .int q41), (6, .int q29), (0, .ref (ad 1)), (1, .int x1), (2, .int x2), (3, .int x3), (4, .int x4), (5, .int x5)] (by decide) rfl dX4_bestQuestion_63 ?_
      refine G_iload_n hC 2 5 rfl rfl dX4_bestQuestion_65 ?_
      refine G_iconst hC (v := (-1)) (by decide) dX4_bestQuestion_66 ?_
      refine G_icmp_eq hC 89 dX4_bestQuestion_67 (by decide) (fun c67 => ?_) (fun c67 => ?_)
      · have h := ifp c67 h
        refine G_lv [3, 4, 8, 1, 0] rfl ?_
        exact hB89 _ _ _ _ h
      have h := ifn c67 h
      refine G_iload hC 8 0 rfl dX4_bestQuestion_70 ?_
      refine G_iload_n hC 3 6 rfl rfl dX4_bestQuestion_72 ?_
      refine G_icmp_lt hC 89 dX4_bestQuestion_73 (by decide) (fun c73 => ?_) (fun c73 => ?_)
      · have h := ifp c73 h
        refine G_lv [3, 4, 8, 1, 0] rfl ?_
        exact hB89 _ _ _ _ h
      have h := ifn c73 h
      refine G_iload hC 8 0 rfl dX4_bestQuestion_76 ?_
      refine G_iload_n hC 3 6 rfl rfl dX4_bestQuestion_78 ?_
      refine G_icmp_ne hC 99 dX4_bestQuestion_79 (by decide) (fun c79 => ?_) (fun c79 => ?_)
      · have h := ifn c79 h
        refine G_lv [3, 4, 5, 6, 7, 8] rfl ?_
        exact hB99 _ _ _ _ _ h
      have h := ifp c79 h
      refine G_iload hC 7 1 rfl dX4_bestQuestion_82 ?_
      refine G_iload hC 4 7 rfl dX4_bestQuestion_84 ?_
      refine G_icmp_ge hC 99 dX4_bestQuestion_86 (by decide) (fun c86 => ?_) (fun c86 => ?_)
      · have h := ifp c86 h
        refine G_lv [3, 4, 5, 6, 7, 8] rfl ?_
        exact hB99 _ _ _ _ _ h
      have h := ifn c86 h
      refine G_lv [3, 4, 8, 1, 0] rfl ?_
      exact hB89 _ _ _ _ h
  unfold f_X4_bestQuestion at h
  refine G_iconst hC (v := (-1)) (by decide) dX4_bestQuestion_0 ?_
  refine G_istore_n hC 2 [(2, .int (-1 : Int32)), (0, .ref (ad 1)), (1, .int x1)] rfl (by decide) rfl dX4_bestQuestion_1 ?_
  refine G_iconst hC (v := 0) (by decide) dX4_bestQuestion_2 ?_
  refine G_istore_n hC 3 [(3, .int (0 : Int32)), (2, .int (-1 : Int32)), (0, .ref (ad 1)), (1, .int x1)] rfl (by decide) rfl dX4_bestQuestion_3 ?_
  refine G_iconst hC (v := 0) (by decide) dX4_bestQuestion_4 ?_
  refine G_istore hC 4 [(4, .int (0 : Int32)), (3, .int (0 : Int32)), (2, .int (-1 : Int32)), (0, .ref (ad 1)), (1, .int x1)] (by decide) rfl dX4_bestQuestion_5 ?_
  refine G_iconst hC (v := 0) (by decide) dX4_bestQuestion_7 ?_
  refine G_istore hC 5 [(5, .int (0 : Int32)), (4, .int (0 : Int32)), (3, .int (0 : Int32)), (2, .int (-1 : Int32)), (0, .ref (ad 1)), (1, .int x1)] (by decide) rfl dX4_bestQuestion_8 ?_
  refine G_lv [4, 5, 3, 2, 1, 0] rfl ?_
  exact hL10 FU _ _ _ _ _ h
def f_X4_allAlike_B48 (now : HallV) (rL6 : Int32 → Int32 → Int32 → Int32 → Int32 → Option (Int32)) (x1 : Int32) (x2 : Int32) (x3 : Int32) (x5 : Int32) (s0 : Int32) : Option (Int32) := rL6 x1 x2 x3 s0 (x5 + (1 : Int32))
def f_X4_allAlike_B43 (now : HallV) (rL6 : Int32 → Int32 → Int32 → Int32 → Int32 → Option (Int32)) (x1 : Int32) (x2 : Int32) (x3 : Int32) (x5 : Int32) : Option (Int32) := f_X4_allAlike_B48 now rL6 x1 x2 x3 x5 (1 : Int32)
def f_X4_allAlike_L6 (now : HallV)  : Nat → Int32 → Int32 → Int32 → Int32 → Int32 → Option (Int32)
  | 0, _, _, _, _, _ => none
  | fu + 1, x1, x2, x3, x4, x5 => if x4 = 0 then (if x4 = 0 ∨ x4 = 1 then (some x4) else none) else (if (5 : Int32) ≤ x5 then (if x4 = 0 ∨ x4 = 1 then (some x4) else none) else (Option.bind (f_X10_isIn x3 x5) (fun q20 => if q20 = 0 then (f_X4_allAlike_B43 now (f_X4_allAlike_L6 now fu) x1 x2 x3 x5) else (Option.bind (f_X1_partOf now x1 x5) (fun q30 => Option.bind (f_X1_partOf now x2 x5) (fun q37 => if q30 = q37 then (f_X4_allAlike_B43 now (f_X4_allAlike_L6 now fu) x1 x2 x3 x5) else (f_X4_allAlike_B48 now (f_X4_allAlike_L6 now fu) x1 x2 x3 x5 (0 : Int32))))))))
def f_X4_allAlike (now : HallV) (x1 : Int32) (x2 : Int32) (x3 : Int32) : Option (Int32) := f_X4_allAlike_L6 now FU x1 x2 x3 (1 : Int32) (0 : Int32)
set_option maxHeartbeats 4000000 in
set_option maxRecDepth 100000 in
theorem c_X4_allAlike {D : va_G} {cs : Nat → ClassId} {sa : Nat → Nat} {n : Nat} {ad : Nat → Nat} {A : Nat → Prop} (l : Launch) {en : Nat → va_E}  {now : HallV} {x1 : Int32} {x2 : Int32} {x3 : Int32}  {q : Int32} (hn : 110 ≤ n) (H_now : Hall cs ad en 1 now) (h : f_X4_allAlike now x1 x2 x3 = some q) : Met l yX4_allAlike wsX4_allAlike { frames := 3, cells := 0, slots := 0, locals := 66 } (va_Pc [.ref (ad 1), .int x1, .int x2, .int x3] (Wd D cs sa n ad A en)) (va_Qi (fun r u => q = r ∧ en = u) (Wd D cs sa n ad A) A) 0 0 A := by
  refine G_startI cX4_allAlike 6 [(0, .ref (ad 1)), (1, .int x1), (2, .int x2), (3, .int x3)] (by decide) rfl (Nat.le_of_ble_eq_true rfl) rfl ?_
  intro p e s m args below meth c Q hC hnm Kr
  have zi_X10_isIn : Cond.initialized RX10 ∈ wsX4_allAlike := by decide +kernel
  have zs_X10_isIn : Cond.static yX10_isIn ∈ wsX4_allAlike := by decide +kernel
  have hL6 : ∀ (fu6 : Nat), ∀ (x1 : Int32) (x2 : Int32) (x3 : Int32) (x4 : Int32) (x5 : Int32), f_X4_allAlike_L6 now fu6 x1 x2 x3 x4 x5 = some q → G p l e ({ frames := 3, cells := 0, slots := 0, locals := 66 } : Room) s m args below meth c D n ad A 6 0 0 Q en 6 [(0, .ref (ad 1)), (1, .int x1), (2, .int x2), (3, .int x3), (4, .int x4), (5, .int x5)] [] := by
    intro fu6
    induction fu6 with
    | zero =>
      intro x1 x2 x3 x4 x5 h
      rw [f_X4_allAlike_L6] at h
      cases h
    | succ fu6 ih6 =>
      have hB48 : ∀ (x1 : Int32) (x2 : Int32) (x3 : Int32) (x5 : Int32) (s0 : Int32), f_X4_allAlike_B48 now (f_X4_allAlike_L6 now fu6) x1 x2 x3 x5 s0 = some q → G p l e ({ frames := 3, cells := 0, slots := 0, locals := 66 } : Room) s m args below meth c D n ad A 6 0 0 Q en 48 [(0, .ref (ad 1)), (1, .int x1), (2, .int x2), (3, .int x3), (5, .int x5)] [.int s0] := by
        intro x1 x2 x3 x5 s0 h
        unfold f_X4_allAlike_B48 at h
        refine G_istore hC 4 [(4, .int s0), (0, .ref (ad 1)), (1, .int x1), (2, .int x2), (3, .int x3), (5, .int x5)] (by decide) rfl dX4_allAlike_48 ?_
        refine G_iinc hC 5 5 [(5, .int (x5 + (1 : Int32))), (4, .int s0), (0, .ref (ad 1)), (1, .int x1), (2, .int x2), (3, .int x3)] rfl rfl (by decide) rfl dX4_allAlike_50 ?_
        refine G_goto hC 6 dX4_allAlike_53 (by decide) ?_
        refine G_lv [2, 3, 4, 5, 1, 0] rfl ?_
        exact ih6 _ _ _ _ _ h
      have hB43 : ∀ (x1 : Int32) (x2 : Int32) (x3 : Int32) (x5 : Int32), f_X4_allAlike_B43 now (f_X4_allAlike_L6 now fu6) x1 x2 x3 x5 = some q → G p l e ({ frames := 3, cells := 0, slots := 0, locals := 66 } : Room) s m args below meth c D n ad A 6 0 0 Q en 43 [(0, .ref (ad 1)), (1, .int x1), (2, .int x2), (3, .int x3), (5, .int x5)] [] := by
        intro x1 x2 x3 x5 h
        unfold f_X4_allAlike_B43 at h
        refine G_iconst hC (v := 1) (by decide) dX4_allAlike_43 ?_
        refine G_goto hC 48 dX4_allAlike_44 (by decide) ?_
        refine G_lv [0, 1, 2, 3, 4] rfl ?_
        exact hB48 _ _ _ _ _ h
      intro x1 x2 x3 x4 x5 h
      rw [f_X4_allAlike_L6] at h
      refine G_iload hC 4 4 rfl dX4_allAlike_6 ?_
      refine G_if_eq hC 56 dX4_allAlike_8 (by decide) (fun c8 => ?_) (fun c8 => ?_)
      · have h := ifp c8 h
        refine G_iload hC 4 4 rfl dX4_allAlike_56 ?_
        obtain ⟨g58, h⟩ := asr h
        have h := Option.some.inj h
        subst h
        exact Kr _ _ _ _ (nar_b g58) ⟨rfl, rfl⟩ dX4_allAlike_58
      have h := ifn c8 h
      refine G_iload hC 5 5 rfl dX4_allAlike_11 ?_
      refine G_iconst hC (v := 5) (by decide) dX4_allAlike_13 ?_
      refine G_icmp_ge hC 56 dX4_allAlike_14 (by decide) (fun c14 => ?_) (fun c14 => ?_)
      · have h := ifp c14 h
        refine G_iload hC 4 4 rfl dX4_allAlike_56 ?_
        obtain ⟨g58, h⟩ := asr h
        have h := Option.some.inj h
        subst h
        exact Kr _ _ _ _ (nar_b g58) ⟨rfl, rfl⟩ dX4_allAlike_58
      have h := ifn c14 h
      refine G_iload_n hC 3 3 rfl rfl dX4_allAlike_17 ?_
      refine G_iload hC 5 5 rfl dX4_allAlike_18 ?_
      obtain ⟨q20, h20, h⟩ := bnd h
      refine G_cNi (st := []) hC _ (c_X10_isIn  l  h20) ⟨va_cnB 2 hC.hts gX4_allAlike_X10_isIn_n35 rfl rfl rfl (hC.2.2.2.1 ("TongueTip$Parts", 35, yX10_isIn, "TongueTip") (List.mem_of_getElem? (i := 6) rfl)) (hC.hts _ zi_X10_isIn) (by decide +kernel) ⟨Nat.le_of_ble_eq_true rfl, Nat.le_of_ble_eq_true rfl⟩, hC.hts _ zs_X10_isIn, trivial⟩ rfl (Nat.le_of_ble_eq_true rfl) (Nat.zero_le _) (Nat.zero_le _) rfl dX4_allAlike_20 (fun r20 enx hw => ?_)
      obtain ⟨rfl, rfl⟩ := hw
      refine G_if_eq hC 43 dX4_allAlike_23 (by decide) (fun c23 => ?_) (fun c23 => ?_)
      · have h := ifp c23 h
        refine G_lv [0, 1, 2, 3, 5] rfl ?_
        exact hB43 _ _ _ _ h
      have h := ifn c23 h
      refine G_aload_n hC 0 0 rfl rfl dX4_allAlike_26 ?_
      refine G_iload_n hC 1 1 rfl rfl dX4_allAlike_27 ?_
      refine G_iload hC 5 5 rfl dX4_allAlike_28 ?_
      obtain ⟨q30, h30, h⟩ := bnd h
      refine G_cVi (st := []) hC _ 1 (by omega) (c_X1_partOf (kk := 1) l (by omega) H_now h30) (cwV 2 hC.hts gX4_allAlike_X1_partOf rfl rfl rfl (by decide +kernel) ⟨Nat.le_of_ble_eq_true rfl, Nat.le_of_ble_eq_true rfl⟩) (H_now 0 (by decide)) rfl rfl (Nat.le_of_ble_eq_true rfl) (Nat.zero_le _) (Nat.zero_le _) rfl dX4_allAlike_30 (fun r30 enx hw => ?_)
      obtain ⟨rfl, rfl⟩ := hw
      refine G_aload_n hC 0 0 rfl rfl dX4_allAlike_33 ?_
      refine G_iload_n hC 2 2 rfl rfl dX4_allAlike_34 ?_
      refine G_iload hC 5 5 rfl dX4_allAlike_35 ?_
      obtain ⟨q37, h37, h⟩ := bnd h
      refine G_cVi (st := [.int q30]) hC _ 1 (by omega) (c_X1_partOf (kk := 1) l (by omega) H_now h37) (cwV 2 hC.hts gX4_allAlike_X1_partOf rfl rfl rfl (by decide +kernel) ⟨Nat.le_of_ble_eq_true rfl, Nat.le_of_ble_eq_true rfl⟩) (H_now 0 (by decide)) rfl rfl (Nat.le_of_ble_eq_true rfl) (Nat.zero_le _) (Nat.zero_le _) rfl dX4_allAlike_37 (fun r37 enx hw => ?_)
      obtain ⟨rfl, rfl⟩ := hw
      refine G_icmp_ne hC 47 dX4_allAlike_40 (by decide) (fun c40 => ?_) (fun c40 => ?_)
      · have h := ifn c40 h
        refine G_iconst hC (v := 0) (by decide) dX4_allAlike_47 ?_
        refine G_lv [0, 1, 2, 3, 5] rfl ?_
        exact hB48 _ _ _ _ _ h
      have h := ifp c40 h
      refine G_lv [0, 1, 2, 3, 5] rfl ?_
      exact hB43 _ _ _ _ h
  unfold f_X4_allAlike at h
  refine G_iconst hC (v := 1) (by decide) dX4_allAlike_0 ?_
  refine G_istore hC 4 [(4, .int (1 : Int32)), (0, .ref (ad 1)), (1, .int x1), (2, .int x2), (3, .int x3)] (by decide) rfl dX4_allAlike_1 ?_
  refine G_iconst hC (v := 0) (by decide) dX4_allAlike_3 ?_
  refine G_istore hC 5 [(5, .int (0 : Int32)), (4, .int (1 : Int32)), (0, .ref (ad 1)), (1, .int x1), (2, .int x2), (3, .int x3)] (by decide) rfl dX4_allAlike_4 ?_
  refine G_lv [2, 3, 4, 5, 1, 0] rfl ?_
  exact hL6 FU _ _ _ _ _ h
def f_X4_tellsAllApart_B63 (now : HallV) (rL4 : Int32 → Int32 → Int32 → Option (Int32)) (x1 : Int32) (x2 : Int32) (x3 : Int32) : Option (Int32) := rL4 x1 x2 (x3 + (1 : Int32))
def f_X4_tellsAllApart_B56 (now : HallV) (rL4 : Int32 → Int32 → Int32 → Option (Int32)) (rL24 : Int32 → Int32 → Int32 → Int32 → Option (Int32)) (x1 : Int32) (x3 : Int32) (x4 : Int32) (s0 : Int32) : Option (Int32) := rL24 x1 s0 x3 (x4 + (1 : Int32))
def f_X4_tellsAllApart_L24 (now : HallV) (rL4 : Int32 → Int32 → Int32 → Option (Int32)) : Nat → Int32 → Int32 → Int32 → Int32 → Option (Int32)
  | 0, _, _, _, _ => none
  | fu + 1, x1, x2, x3, x4 => if x2 = 0 then (f_X4_tellsAllApart_B63 now rL4 x1 x2 x3) else (Option.bind (f_X8_size (now.1 0)) (fun q34 => if q34 ≤ x4 then (f_X4_tellsAllApart_B63 now rL4 x1 x2 x3) else (Option.bind (f_X4_allAlike now x3 x4 x1) (fun q45 => if q45 = 0 then (f_X4_tellsAllApart_B56 now rL4 (f_X4_tellsAllApart_L24 now rL4 fu) x1 x3 x4 (1 : Int32)) else (f_X4_tellsAllApart_B56 now rL4 (f_X4_tellsAllApart_L24 now rL4 fu) x1 x3 x4 (0 : Int32))))))
def f_X4_tellsAllApart_L4 (now : HallV)  : Nat → Int32 → Int32 → Int32 → Option (Int32)
  | 0, _, _, _ => none
  | fu + 1, x1, x2, x3 => if x2 = 0 then (if x2 = 0 ∨ x2 = 1 then (some x2) else none) else (Option.bind (f_X8_size (now.1 0)) (fun q13 => if q13 ≤ x3 then (if x2 = 0 ∨ x2 = 1 then (some x2) else none) else (f_X4_tellsAllApart_L24 now (f_X4_tellsAllApart_L4 now fu) FU x1 x2 x3 (x3 + (1 : Int32)))))
def f_X4_tellsAllApart (now : HallV) (x1 : Int32) : Option (Int32) := f_X4_tellsAllApart_L4 now FU x1 (1 : Int32) (0 : Int32)
set_option maxHeartbeats 4000000 in
set_option maxRecDepth 100000 in
theorem c_X4_tellsAllApart {D : va_G} {cs : Nat → ClassId} {sa : Nat → Nat} {n : Nat} {ad : Nat → Nat} {A : Nat → Prop} (l : Launch) {en : Nat → va_E}  {now : HallV} {x1 : Int32}  {q : Int32} (hn : 110 ≤ n) (H_now : Hall cs ad en 1 now) (h : f_X4_tellsAllApart now x1 = some q) : Met l yX4_tellsAllApart wsX4_tellsAllApart { frames := 4, cells := 0, slots := 0, locals := 91 } (va_Pc [.ref (ad 1), .int x1] (Wd D cs sa n ad A en)) (va_Qi (fun r u => q = r ∧ en = u) (Wd D cs sa n ad A) A) 0 0 A := by
  refine G_startI cX4_tellsAllApart 5 [(0, .ref (ad 1)), (1, .int x1)] (by decide) rfl (Nat.le_of_ble_eq_true rfl) rfl ?_
  intro p e s m args below meth c Q hC hnm Kr
  have inX1 : ∀ w ∈ u_ws RX1 TX1 6, w ∈ wsX4_tellsAllApart := by decide +kernel
  have m9 : Cond.fieldLink RX4 9 "TongueTip$Hall" "people" "LTongueTip$Table;" ∈ wsX4_tellsAllApart := by decide +kernel
  have hL4 : ∀ (fu4 : Nat), ∀ (x1 : Int32) (x2 : Int32) (x3 : Int32), f_X4_tellsAllApart_L4 now fu4 x1 x2 x3 = some q → G p l e ({ frames := 4, cells := 0, slots := 0, locals := 91 } : Room) s m args below meth c D n ad A 5 0 0 Q en 4 [(0, .ref (ad 1)), (1, .int x1), (2, .int x2), (3, .int x3)] [] := by
    intro fu4
    induction fu4 with
    | zero =>
      intro x1 x2 x3 h
      rw [f_X4_tellsAllApart_L4] at h
      cases h
    | succ fu4 ih4 =>
      have hB63 : ∀ (x1 : Int32) (x2 : Int32) (x3 : Int32), f_X4_tellsAllApart_B63 now (f_X4_tellsAllApart_L4 now fu4) x1 x2 x3 = some q → G p l e ({ frames := 4, cells := 0, slots := 0, locals := 91 } : Room) s m args below meth c D n ad A 5 0 0 Q en 63 [(0, .ref (ad 1)), (1, .int x1), (2, .int x2), (3, .int x3)] [] := by
        intro x1 x2 x3 h
        unfold f_X4_tellsAllApart_B63 at h
        refine G_iinc hC 3 3 [(3, .int (x3 + (1 : Int32))), (0, .ref (ad 1)), (1, .int x1), (2, .int x2)] rfl rfl (by decide) rfl dX4_tellsAllApart_63 ?_
        refine G_goto hC 4 dX4_tellsAllApart_66 (by decide) ?_
        refine G_lv [1, 2, 3, 0] rfl ?_
        exact ih4 _ _ _ h
      have hL24 : ∀ (fu24 : Nat), ∀ (x1 : Int32) (x2 : Int32) (x3 : Int32) (x4 : Int32), f_X4_tellsAllApart_L24 now (f_X4_tellsAllApart_L4 now fu4) fu24 x1 x2 x3 x4 = some q → G p l e ({ frames := 4, cells := 0, slots := 0, locals := 91 } : Room) s m args below meth c D n ad A 5 0 0 Q en 24 [(0, .ref (ad 1)), (1, .int x1), (2, .int x2), (3, .int x3), (4, .int x4)] [] := by
        intro fu24
        induction fu24 with
        | zero =>
          intro x1 x2 x3 x4 h
          rw [f_X4_tellsAllApart_L24] at h
          cases h
        | succ fu24 ih24 =>
          have hB56 : ∀ (x1 : Int32) (x3 : Int32) (x4 : Int32) (s0 : Int32), f_X4_tellsAllApart_B56 now (f_X4_tellsAllApart_L4 now fu4) (f_X4_tellsAllApart_L24 now (f_X4_tellsAllApart_L4 now fu4) fu24) x1 x3 x4 s0 = some q → G p l e ({ frames := 4, cells := 0, slots := 0, locals := 91 } : Room) s m args below meth c D n ad A 5 0 0 Q en 56 [(0, .ref (ad 1)), (1, .int x1), (3, .int x3), (4, .int x4)] [.int s0] := by
            intro x1 x3 x4 s0 h
            unfold f_X4_tellsAllApart_B56 at h
            refine G_istore_n hC 2 [(2, .int s0), (0, .ref (ad 1)), (1, .int x1), (3, .int x3), (4, .int x4)] rfl (by decide) rfl dX4_tellsAllApart_56 ?_
            refine G_iinc hC 4 4 [(4, .int (x4 + (1 : Int32))), (2, .int s0), (0, .ref (ad 1)), (1, .int x1), (3, .int x3)] rfl rfl (by decide) rfl dX4_tellsAllApart_57 ?_
            refine G_goto hC 24 dX4_tellsAllApart_60 (by decide) ?_
            refine G_lv [2, 3, 1, 4, 0] rfl ?_
            exact ih24 _ _ _ _ h
          intro x1 x2 x3 x4 h
          rw [f_X4_tellsAllApart_L24] at h
          refine G_iload_n hC 2 2 rfl rfl dX4_tellsAllApart_24 ?_
          refine G_if_eq hC 63 dX4_tellsAllApart_25 (by decide) (fun c25 => ?_) (fun c25 => ?_)
          · have h := ifp c25 h
            refine G_lv [0, 1, 2, 3] rfl ?_
            exact hB63 _ _ _ h
          have h := ifn c25 h
          refine G_iload hC 4 4 rfl dX4_tellsAllApart_28 ?_
          refine G_aload_n hC 0 0 rfl rfl dX4_tellsAllApart_30 ?_
          refine G_get hC inX1 1 (by omega) (v := .ref (ad (2))) (H_now 0 (by decide)) rfl 0 (by decide) m9 rfl rfl dX4_tellsAllApart_31 ?_
          obtain ⟨q34, h34, h⟩ := bnd h
          refine G_cVi (st := [.int x4]) hC _ (1 + 1) (by omega) (c_X8_size (pp := 1 + 1) l (by omega) (H_now 1 (by decide)) h34) (cwV 0 hC.hts gX4_tellsAllApart_X8_size rfl rfl rfl (by decide +kernel) ⟨Nat.le_of_ble_eq_true rfl, Nat.le_of_ble_eq_true rfl⟩) (H_now 1 (by decide)) rfl rfl (Nat.le_of_ble_eq_true rfl) (Nat.zero_le _) (Nat.zero_le _) rfl dX4_tellsAllApart_34 (fun r34 enx hw => ?_)
          obtain ⟨rfl, rfl⟩ := hw
          refine G_icmp_ge hC 63 dX4_tellsAllApart_37 (by decide) (fun c37 => ?_) (fun c37 => ?_)
          · have h := ifp c37 h
            refine G_lv [0, 1, 2, 3] rfl ?_
            exact hB63 _ _ _ h
          have h := ifn c37 h
          refine G_aload_n hC 0 0 rfl rfl dX4_tellsAllApart_40 ?_
          refine G_iload_n hC 3 3 rfl rfl dX4_tellsAllApart_41 ?_
          refine G_iload hC 4 4 rfl dX4_tellsAllApart_42 ?_
          refine G_iload_n hC 1 1 rfl rfl dX4_tellsAllApart_44 ?_
          obtain ⟨q45, h45, h⟩ := bnd h
          refine G_cSi (st := []) hC _ (c_X4_allAlike  l (by omega) H_now h45) (va_cwS 4 hC.hts gX4_tellsAllApart_X4_allAlike rfl rfl rfl (by decide +kernel) ⟨Nat.le_of_ble_eq_true rfl, Nat.le_of_ble_eq_true rfl⟩) rfl (Nat.le_of_ble_eq_true rfl) (Nat.zero_le _) (Nat.zero_le _) rfl dX4_tellsAllApart_45 (fun r45 enx hw => ?_)
          obtain ⟨rfl, rfl⟩ := hw
          refine G_if_ne hC 55 dX4_tellsAllApart_48 (by decide) (fun c48 => ?_) (fun c48 => ?_)
          · have h := ifn c48 h
            refine G_iconst hC (v := 0) (by decide) dX4_tellsAllApart_55 ?_
            refine G_lv [0, 1, 3, 4] rfl ?_
            exact hB56 _ _ _ _ h
          have h := ifp c48 h
          refine G_iconst hC (v := 1) (by decide) dX4_tellsAllApart_51 ?_
          refine G_goto hC 56 dX4_tellsAllApart_52 (by decide) ?_
          refine G_lv [0, 1, 3, 4] rfl ?_
          exact hB56 _ _ _ _ h
      intro x1 x2 x3 h
      rw [f_X4_tellsAllApart_L4] at h
      refine G_iload_n hC 2 2 rfl rfl dX4_tellsAllApart_4 ?_
      refine G_if_eq hC 69 dX4_tellsAllApart_5 (by decide) (fun c5 => ?_) (fun c5 => ?_)
      · have h := ifp c5 h
        refine G_iload_n hC 2 2 rfl rfl dX4_tellsAllApart_69 ?_
        obtain ⟨g70, h⟩ := asr h
        have h := Option.some.inj h
        subst h
        exact Kr _ _ _ _ (nar_b g70) ⟨rfl, rfl⟩ dX4_tellsAllApart_70
      have h := ifn c5 h
      refine G_iload_n hC 3 3 rfl rfl dX4_tellsAllApart_8 ?_
      refine G_aload_n hC 0 0 rfl rfl dX4_tellsAllApart_9 ?_
      refine G_get hC inX1 1 (by omega) (v := .ref (ad (2))) (H_now 0 (by decide)) rfl 0 (by decide) m9 rfl rfl dX4_tellsAllApart_10 ?_
      obtain ⟨q13, h13, h⟩ := bnd h
      refine G_cVi (st := [.int x3]) hC _ (1 + 1) (by omega) (c_X8_size (pp := 1 + 1) l (by omega) (H_now 1 (by decide)) h13) (cwV 0 hC.hts gX4_tellsAllApart_X8_size rfl rfl rfl (by decide +kernel) ⟨Nat.le_of_ble_eq_true rfl, Nat.le_of_ble_eq_true rfl⟩) (H_now 1 (by decide)) rfl rfl (Nat.le_of_ble_eq_true rfl) (Nat.zero_le _) (Nat.zero_le _) rfl dX4_tellsAllApart_13 (fun r13 enx hw => ?_)
      obtain ⟨rfl, rfl⟩ := hw
      refine G_icmp_ge hC 69 dX4_tellsAllApart_16 (by decide) (fun c16 => ?_) (fun c16 => ?_)
      · have h := ifp c16 h
        refine G_iload_n hC 2 2 rfl rfl dX4_tellsAllApart_69 ?_
        obtain ⟨g70, h⟩ := asr h
        have h := Option.some.inj h
        subst h
        exact Kr _ _ _ _ (nar_b g70) ⟨rfl, rfl⟩ dX4_tellsAllApart_70
      have h := ifn c16 h
      refine G_iload_n hC 3 3 rfl rfl dX4_tellsAllApart_19 ?_
      refine G_iconst hC (v := 1) (by decide) dX4_tellsAllApart_20 ?_
      refine G_iadd hC dX4_tellsAllApart_21 ?_
      refine G_istore hC 4 [(4, .int (x3 + (1 : Int32))), (0, .ref (ad 1)), (1, .int x1), (2, .int x2), (3, .int x3)] (by decide) rfl dX4_tellsAllApart_22 ?_
      refine G_lv [1, 2, 3, 4, 0] rfl ?_
      exact hL24 FU _ _ _ _ h
  unfold f_X4_tellsAllApart at h
  refine G_iconst hC (v := 1) (by decide) dX4_tellsAllApart_0 ?_
  refine G_istore_n hC 2 [(2, .int (1 : Int32)), (0, .ref (ad 1)), (1, .int x1)] rfl (by decide) rfl dX4_tellsAllApart_1 ?_
  refine G_iconst hC (v := 0) (by decide) dX4_tellsAllApart_2 ?_
  refine G_istore_n hC 3 [(3, .int (0 : Int32)), (2, .int (1 : Int32)), (0, .ref (ad 1)), (1, .int x1)] rfl (by decide) rfl dX4_tellsAllApart_3 ?_
  refine G_lv [2, 3, 1, 0] rfl ?_
  exact hL4 FU _ _ _ h
def f_X4_isTaken (now : HallV) (x1 : Int32) (x2 : Int32) (x3 : Int32) : Option (Int32) := Option.bind (f_X8_get (7 : Int32) 84 (now.2.1 0) x1 (0 : Int32)) (fun q6 => Option.bind (f_X8_get (7 : Int32) 84 (now.2.1 0) x2 (0 : Int32)) (fun q17 => Option.bind (f_X2_lettersOf q6) (fun q24 => Option.bind (f_X2_lettersOf q17) (fun q29 => if q24 = q29 then (Option.bind (f_X2_unlikePlaces q6 q17) (fun q39 => if x3 < q39 then (some (0 : Int32)) else (some (1 : Int32)))) else (some (0 : Int32))))))
set_option maxHeartbeats 4000000 in
set_option maxRecDepth 100000 in
theorem c_X4_isTaken {D : va_G} {cs : Nat → ClassId} {sa : Nat → Nat} {n : Nat} {ad : Nat → Nat} {A : Nat → Prop} (l : Launch) {en : Nat → va_E}  {now : HallV} {x1 : Int32} {x2 : Int32} {x3 : Int32}  {q : Int32} (hn : 110 ≤ n) (H_now : Hall cs ad en 1 now) (h : f_X4_isTaken now x1 x2 x3 = some q) : Met l yX4_isTaken wsX4_isTaken { frames := 2, cells := 0, slots := 0, locals := 47 } (va_Pc [.ref (ad 1), .int x1, .int x2, .int x3] (Wd D cs sa n ad A en)) (va_Qi (fun r u => q = r ∧ en = u) (Wd D cs sa n ad A) A) 0 0 A := by
  refine G_startI cX4_isTaken 8 [(0, .ref (ad 1)), (1, .int x1), (2, .int x2), (3, .int x3)] (by decide) rfl (Nat.le_of_ble_eq_true rfl) rfl ?_
  intro p e s m args below meth c Q hC hnm Kr
  have inX1 : ∀ w ∈ u_ws RX1 TX1 6, w ∈ wsX4_isTaken := by decide +kernel
  have m9 : Cond.fieldLink RX4 9 "TongueTip$Hall" "people" "LTongueTip$Table;" ∈ wsX4_isTaken := by decide +kernel
  unfold f_X4_isTaken at h
  refine G_aload_n hC 0 0 rfl rfl dX4_isTaken_0 ?_
  refine G_get hC inX1 1 (by omega) (v := .ref (ad (2))) (H_now 0 (by decide)) rfl 0 (by decide) m9 rfl rfl dX4_isTaken_1 ?_
  refine G_iload_n hC 1 1 rfl rfl dX4_isTaken_4 ?_
  refine G_iconst hC (v := 0) (by decide) dX4_isTaken_5 ?_
  obtain ⟨q6, h6, h⟩ := bnd h
  refine G_cVl (st := []) hC _ (1 + 1) (by omega) (c_X8_get (pp := 1 + 1) l (by omega) (H_now 1 (by decide)) (H_now 2 (by decide)) h6) (cwV 2 hC.hts gX4_isTaken_X8_get rfl rfl rfl (by decide +kernel) ⟨Nat.le_of_ble_eq_true rfl, Nat.le_of_ble_eq_true rfl⟩) (H_now 1 (by decide)) rfl rfl (Nat.le_of_ble_eq_true rfl) (Nat.zero_le _) (Nat.zero_le _) rfl dX4_isTaken_6 (fun r6 enx hw => ?_)
  obtain ⟨rfl, rfl⟩ := hw
  refine G_lstore hC 4 [(4, .long q6), (0, .ref (ad 1)), (1, .int x1), (2, .int x2), (3, .int x3)] (by decide) rfl dX4_isTaken_9 ?_
  refine G_aload_n hC 0 1 rfl rfl dX4_isTaken_11 ?_
  refine G_get hC inX1 1 (by omega) (v := .ref (ad (2))) (H_now 0 (by decide)) rfl 0 (by decide) m9 rfl rfl dX4_isTaken_12 ?_
  refine G_iload_n hC 2 3 rfl rfl dX4_isTaken_15 ?_
  refine G_iconst hC (v := 0) (by decide) dX4_isTaken_16 ?_
  obtain ⟨q17, h17, h⟩ := bnd h
  refine G_cVl (st := []) hC _ (1 + 1) (by omega) (c_X8_get (pp := 1 + 1) l (by omega) (H_now 1 (by decide)) (H_now 2 (by decide)) h17) (cwV 2 hC.hts gX4_isTaken_X8_get rfl rfl rfl (by decide +kernel) ⟨Nat.le_of_ble_eq_true rfl, Nat.le_of_ble_eq_true rfl⟩) (H_now 1 (by decide)) rfl rfl (Nat.le_of_ble_eq_true rfl) (Nat.zero_le _) (Nat.zero_le _) rfl dX4_isTaken_17 (fun r17 enx hw => ?_)
  obtain ⟨rfl, rfl⟩ := hw
  refine G_lstore hC 6 [(6, .long q17), (4, .long q6), (0, .ref (ad 1)), (1, .int x1), (2, .int x2), (3, .int x3)] (by decide) rfl dX4_isTaken_20 ?_
  refine G_lload hC 4 1 rfl dX4_isTaken_22 ?_
  obtain ⟨q24, h24, h⟩ := bnd h
  refine G_cSi (st := []) hC _ (c_X2_lettersOf  l  h24) (va_cwS 1 hC.hts gX4_isTaken_X2_lettersOf rfl rfl rfl (by decide +kernel) ⟨Nat.le_of_ble_eq_true rfl, Nat.le_of_ble_eq_true rfl⟩) rfl (Nat.le_of_ble_eq_true rfl) (Nat.zero_le _) (Nat.zero_le _) rfl dX4_isTaken_24 (fun r24 enx hw => ?_)
  obtain ⟨rfl, rfl⟩ := hw
  refine G_lload hC 6 0 rfl dX4_isTaken_27 ?_
  obtain ⟨q29, h29, h⟩ := bnd h
  refine G_cSi (st := [.int q24]) hC _ (c_X2_lettersOf  l  h29) (va_cwS 1 hC.hts gX4_isTaken_X2_lettersOf rfl rfl rfl (by decide +kernel) ⟨Nat.le_of_ble_eq_true rfl, Nat.le_of_ble_eq_true rfl⟩) rfl (Nat.le_of_ble_eq_true rfl) (Nat.zero_le _) (Nat.zero_le _) rfl dX4_isTaken_29 (fun r29 enx hw => ?_)
  obtain ⟨rfl, rfl⟩ := hw
  refine G_icmp_ne hC 50 dX4_isTaken_32 (by decide) (fun c32 => ?_) (fun c32 => ?_)
  · have h := ifn c32 h
    refine G_iconst hC (v := 0) (by decide) dX4_isTaken_50 ?_
    have h := Option.some.inj h
    subst h
    exact Kr _ _ _ _ (by decide) ⟨rfl, rfl⟩ dX4_isTaken_51
  have h := ifp c32 h
  refine G_lload hC 4 1 rfl dX4_isTaken_35 ?_
  refine G_lload hC 6 0 rfl dX4_isTaken_37 ?_
  obtain ⟨q39, h39, h⟩ := bnd h
  refine G_cSi (st := []) hC _ (c_X2_unlikePlaces  l  h39) (va_cwS 2 hC.hts gX4_isTaken_X2_unlikePlaces rfl rfl rfl (by decide +kernel) ⟨Nat.le_of_ble_eq_true rfl, Nat.le_of_ble_eq_true rfl⟩) rfl (Nat.le_of_ble_eq_true rfl) (Nat.zero_le _) (Nat.zero_le _) rfl dX4_isTaken_39 (fun r39 enx hw => ?_)
  obtain ⟨rfl, rfl⟩ := hw
  refine G_iload_n hC 3 5 rfl rfl dX4_isTaken_42 ?_
  refine G_icmp_gt hC 50 dX4_isTaken_43 (by decide) (fun c43 => ?_) (fun c43 => ?_)
  · have h := ifp c43 h
    refine G_iconst hC (v := 0) (by decide) dX4_isTaken_50 ?_
    have h := Option.some.inj h
    subst h
    exact Kr _ _ _ _ (by decide) ⟨rfl, rfl⟩ dX4_isTaken_51
  have h := ifn c43 h
  refine G_iconst hC (v := 1) (by decide) dX4_isTaken_46 ?_
  refine G_goto hC 51 dX4_isTaken_47 (by decide) ?_
  have h := Option.some.inj h
  subst h
  exact Kr _ _ _ _ (by decide) ⟨rfl, rfl⟩ dX4_isTaken_51
def f_X4_takenPair_B64 (now : HallV) (rL5 : Int32 → Int32 → Int32 → Int32 → Option (Int32)) (rL23 : Int32 → Int32 → Int32 → Int32 → Int32 → Option (Int32)) (x1 : Int32) (x2 : Int32) (x3 : Int32) (x4 : Int32) (x5 : Int32) : Option (Int32) := rL23 x1 x2 x3 x4 (x5 + (1 : Int32))
def f_X4_takenPair_L23 (now : HallV) (rL5 : Int32 → Int32 → Int32 → Int32 → Option (Int32)) : Nat → Int32 → Int32 → Int32 → Int32 → Int32 → Option (Int32)
  | 0, _, _, _, _, _ => none
  | fu + 1, x1, x2, x3, x4, x5 => Option.bind (f_X8_size (now.1 0)) (fun q29 => if q29 ≤ x5 then (rL5 x1 x2 x3 (x4 + (1 : Int32))) else (Option.bind (f_X4_isTaken now x4 x5 x1) (fun q41 => if q41 = 0 then (f_X4_takenPair_B64 now rL5 (f_X4_takenPair_L23 now rL5 fu) x1 x2 x3 x4 x5) else (if x3 = x2 then (some (((100 : Int32) * x4) + x5)) else (f_X4_takenPair_B64 now rL5 (f_X4_takenPair_L23 now rL5 fu) x1 x2 (x3 + (1 : Int32)) x4 x5)))))
def f_X4_takenPair_L5 (now : HallV)  : Nat → Int32 → Int32 → Int32 → Int32 → Option (Int32)
  | 0, _, _, _, _ => none
  | fu + 1, x1, x2, x3, x4 => Option.bind (f_X8_size (now.1 0)) (fun q11 => if q11 ≤ x4 then (if x2 = (-1 : Int32) then (some x3) else (some (-5 : Int32))) else (f_X4_takenPair_L23 now (f_X4_takenPair_L5 now fu) FU x1 x2 x3 x4 (x4 + (1 : Int32))))
def f_X4_takenPair (now : HallV) (x1 : Int32) (x2 : Int32) : Option (Int32) := f_X4_takenPair_L5 now FU x1 x2 (0 : Int32) (0 : Int32)
set_option maxHeartbeats 4000000 in
set_option maxRecDepth 100000 in
theorem c_X4_takenPair {D : va_G} {cs : Nat → ClassId} {sa : Nat → Nat} {n : Nat} {ad : Nat → Nat} {A : Nat → Prop} (l : Launch) {en : Nat → va_E}  {now : HallV} {x1 : Int32} {x2 : Int32}  {q : Int32} (hn : 110 ≤ n) (H_now : Hall cs ad en 1 now) (h : f_X4_takenPair now x1 x2 = some q) : Met l yX4_takenPair wsX4_takenPair { frames := 3, cells := 0, slots := 0, locals := 74 } (va_Pc [.ref (ad 1), .int x1, .int x2] (Wd D cs sa n ad A en)) (va_Qi (fun r u => q = r ∧ en = u) (Wd D cs sa n ad A) A) 0 0 A := by
  refine G_startI cX4_takenPair 6 [(0, .ref (ad 1)), (1, .int x1), (2, .int x2)] (by decide) rfl (Nat.le_of_ble_eq_true rfl) rfl ?_
  intro p e s m args below meth c Q hC hnm Kr
  have inX1 : ∀ w ∈ u_ws RX1 TX1 6, w ∈ wsX4_takenPair := by decide +kernel
  have m9 : Cond.fieldLink RX4 9 "TongueTip$Hall" "people" "LTongueTip$Table;" ∈ wsX4_takenPair := by decide +kernel
  have hL5 : ∀ (fu5 : Nat), ∀ (x1 : Int32) (x2 : Int32) (x3 : Int32) (x4 : Int32), f_X4_takenPair_L5 now fu5 x1 x2 x3 x4 = some q → G p l e ({ frames := 3, cells := 0, slots := 0, locals := 74 } : Room) s m args below meth c D n ad A 6 0 0 Q en 5 [(0, .ref (ad 1)), (1, .int x1), (2, .int x2), (3, .int x3), (4, .int x4)] [] := by
    intro fu5
    induction fu5 with
    | zero =>
      intro x1 x2 x3 x4 h
      rw [f_X4_takenPair_L5] at h
      cases h
    | succ fu5 ih5 =>
      have hL23 : ∀ (fu23 : Nat), ∀ (x1 : Int32) (x2 : Int32) (x3 : Int32) (x4 : Int32) (x5 : Int32), f_X4_takenPair_L23 now (f_X4_takenPair_L5 now fu5) fu23 x1 x2 x3 x4 x5 = some q → G p l e ({ frames := 3, cells := 0, slots := 0, locals := 74 } : Room) s m args below meth c D n ad A 6 0 0 Q en 23 [(0, .ref (ad 1)), (1, .int x1), (2, .int x2), (3, .int x3), (4, .int x4), (5, .int x5)] [] := by
        intro fu23
        induction fu23 with
        | zero =>
          intro x1 x2 x3 x4 x5 h
          rw [f_X4_takenPair_L23] at h
          cases h
        | succ fu23 ih23 =>
          have hB64 : ∀ (x1 : Int32) (x2 : Int32) (x3 : Int32) (x4 : Int32) (x5 : Int32), f_X4_takenPair_B64 now (f_X4_takenPair_L5 now fu5) (f_X4_takenPair_L23 now (f_X4_takenPair_L5 now fu5) fu23) x1 x2 x3 x4 x5 = some q → G p l e ({ frames := 3, cells := 0, slots := 0, locals := 74 } : Room) s m args below meth c D n ad A 6 0 0 Q en 64 [(0, .ref (ad 1)), (1, .int x1), (2, .int x2), (3, .int x3), (4, .int x4), (5, .int x5)] [] := by
            intro x1 x2 x3 x4 x5 h
            unfold f_X4_takenPair_B64 at h
            refine G_iinc hC 5 5 [(5, .int (x5 + (1 : Int32))), (0, .ref (ad 1)), (1, .int x1), (2, .int x2), (3, .int x3), (4, .int x4)] rfl rfl (by decide) rfl dX4_takenPair_64 ?_
            refine G_goto hC 23 dX4_takenPair_67 (by decide) ?_
            refine G_lv [1, 2, 3, 4, 5, 0] rfl ?_
            exact ih23 _ _ _ _ _ h
          intro x1 x2 x3 x4 x5 h
          rw [f_X4_takenPair_L23] at h
          refine G_iload hC 5 5 rfl dX4_takenPair_23 ?_
          refine G_aload_n hC 0 0 rfl rfl dX4_takenPair_25 ?_
          refine G_get hC inX1 1 (by omega) (v := .ref (ad (2))) (H_now 0 (by decide)) rfl 0 (by decide) m9 rfl rfl dX4_takenPair_26 ?_
          obtain ⟨q29, h29, h⟩ := bnd h
          refine G_cVi (st := [.int x5]) hC _ (1 + 1) (by omega) (c_X8_size (pp := 1 + 1) l (by omega) (H_now 1 (by decide)) h29) (cwV 0 hC.hts gX4_takenPair_X8_size rfl rfl rfl (by decide +kernel) ⟨Nat.le_of_ble_eq_true rfl, Nat.le_of_ble_eq_true rfl⟩) (H_now 1 (by decide)) rfl rfl (Nat.le_of_ble_eq_true rfl) (Nat.zero_le _) (Nat.zero_le _) rfl dX4_takenPair_29 (fun r29 enx hw => ?_)
          obtain ⟨rfl, rfl⟩ := hw
          refine G_icmp_ge hC 70 dX4_takenPair_32 (by decide) (fun c32 => ?_) (fun c32 => ?_)
          · have h := ifp c32 h
            refine G_iinc hC 4 4 [(4, .int (x4 + (1 : Int32))), (0, .ref (ad 1)), (1, .int x1), (2, .int x2), (3, .int x3), (5, .int x5)] rfl rfl (by decide) rfl dX4_takenPair_70 ?_
            refine G_goto hC 5 dX4_takenPair_73 (by decide) ?_
            refine G_lv [1, 2, 3, 4, 0] rfl ?_
            exact ih5 _ _ _ _ h
          have h := ifn c32 h
          refine G_aload_n hC 0 0 rfl rfl dX4_takenPair_35 ?_
          refine G_iload hC 4 4 rfl dX4_takenPair_36 ?_
          refine G_iload hC 5 5 rfl dX4_takenPair_38 ?_
          refine G_iload_n hC 1 1 rfl rfl dX4_takenPair_40 ?_
          obtain ⟨q41, h41, h⟩ := bnd h
          refine G_cSi (st := []) hC _ (c_X4_isTaken  l (by omega) H_now h41) (va_cwS 4 hC.hts gX4_takenPair_X4_isTaken rfl rfl rfl (by decide +kernel) ⟨Nat.le_of_ble_eq_true rfl, Nat.le_of_ble_eq_true rfl⟩) rfl (Nat.le_of_ble_eq_true rfl) (Nat.zero_le _) (Nat.zero_le _) rfl dX4_takenPair_41 (fun r41 enx hw => ?_)
          obtain ⟨rfl, rfl⟩ := hw
          refine G_if_eq hC 64 dX4_takenPair_44 (by decide) (fun c44 => ?_) (fun c44 => ?_)
          · have h := ifp c44 h
            refine G_lv [0, 1, 2, 3, 4, 5] rfl ?_
            exact hB64 _ _ _ _ _ h
          have h := ifn c44 h
          refine G_iload_n hC 3 3 rfl rfl dX4_takenPair_47 ?_
          refine G_iload_n hC 2 2 rfl rfl dX4_takenPair_48 ?_
          refine G_icmp_ne hC 61 dX4_takenPair_49 (by decide) (fun c49 => ?_) (fun c49 => ?_)
          · have h := ifn c49 h
            refine G_iinc hC 3 3 [(3, .int (x3 + (1 : Int32))), (0, .ref (ad 1)), (1, .int x1), (2, .int x2), (4, .int x4), (5, .int x5)] rfl rfl (by decide) rfl dX4_takenPair_61 ?_
            refine G_lv [1, 2, 3, 0, 4, 5] rfl ?_
            exact hB64 _ _ _ _ _ h
          have h := ifp c49 h
          refine G_bipush hC (v := 100) (by decide) dX4_takenPair_52 ?_
          refine G_iload hC 4 4 rfl dX4_takenPair_54 ?_
          refine G_imul hC dX4_takenPair_56 ?_
          refine G_iload hC 5 5 rfl dX4_takenPair_57 ?_
          refine G_iadd hC dX4_takenPair_59 ?_
          have h := Option.some.inj h
          subst h
          exact Kr _ _ _ _ (nar_i _) ⟨rfl, rfl⟩ dX4_takenPair_60
      intro x1 x2 x3 x4 h
      rw [f_X4_takenPair_L5] at h
      refine G_iload hC 4 4 rfl dX4_takenPair_5 ?_
      refine G_aload_n hC 0 0 rfl rfl dX4_takenPair_7 ?_
      refine G_get hC inX1 1 (by omega) (v := .ref (ad (2))) (H_now 0 (by decide)) rfl 0 (by decide) m9 rfl rfl dX4_takenPair_8 ?_
      obtain ⟨q11, h11, h⟩ := bnd h
      refine G_cVi (st := [.int x4]) hC _ (1 + 1) (by omega) (c_X8_size (pp := 1 + 1) l (by omega) (H_now 1 (by decide)) h11) (cwV 0 hC.hts gX4_takenPair_X8_size rfl rfl rfl (by decide +kernel) ⟨Nat.le_of_ble_eq_true rfl, Nat.le_of_ble_eq_true rfl⟩) (H_now 1 (by decide)) rfl rfl (Nat.le_of_ble_eq_true rfl) (Nat.zero_le _) (Nat.zero_le _) rfl dX4_takenPair_11 (fun r11 enx hw => ?_)
      obtain ⟨rfl, rfl⟩ := hw
      refine G_icmp_ge hC 76 dX4_takenPair_14 (by decide) (fun c14 => ?_) (fun c14 => ?_)
      · have h := ifp c14 h
        refine G_iload_n hC 2 2 rfl rfl dX4_takenPair_76 ?_
        refine G_iconst hC (v := (-1)) (by decide) dX4_takenPair_77 ?_
        refine G_icmp_ne hC 85 dX4_takenPair_78 (by decide) (fun c78 => ?_) (fun c78 => ?_)
        · have h := ifn c78 h
          refine G_bipush hC (v := (-5)) (by decide) dX4_takenPair_85 ?_
          have h := Option.some.inj h
          subst h
          exact Kr _ _ _ _ (nar_i _) ⟨rfl, rfl⟩ dX4_takenPair_87
        have h := ifp c78 h
        refine G_iload_n hC 3 3 rfl rfl dX4_takenPair_81 ?_
        refine G_goto hC 87 dX4_takenPair_82 (by decide) ?_
        have h := Option.some.inj h
        subst h
        exact Kr _ _ _ _ (nar_i _) ⟨rfl, rfl⟩ dX4_takenPair_87
      have h := ifn c14 h
      refine G_iload hC 4 4 rfl dX4_takenPair_17 ?_
      refine G_iconst hC (v := 1) (by decide) dX4_takenPair_19 ?_
      refine G_iadd hC dX4_takenPair_20 ?_
      refine G_istore hC 5 [(5, .int (x4 + (1 : Int32))), (0, .ref (ad 1)), (1, .int x1), (2, .int x2), (3, .int x3), (4, .int x4)] (by decide) rfl dX4_takenPair_21 ?_
      refine G_lv [1, 2, 3, 4, 5, 0] rfl ?_
      exact hL23 FU _ _ _ _ _ h
  unfold f_X4_takenPair at h
  refine G_iconst hC (v := 0) (by decide) dX4_takenPair_0 ?_
  refine G_istore_n hC 3 [(3, .int (0 : Int32)), (0, .ref (ad 1)), (1, .int x1), (2, .int x2)] rfl (by decide) rfl dX4_takenPair_1 ?_
  refine G_iconst hC (v := 0) (by decide) dX4_takenPair_2 ?_
  refine G_istore hC 4 [(4, .int (0 : Int32)), (3, .int (0 : Int32)), (0, .ref (ad 1)), (1, .int x1), (2, .int x2)] (by decide) rfl dX4_takenPair_3 ?_
  refine G_lv [2, 3, 4, 1, 0] rfl ?_
  exact hL5 FU _ _ _ _ h
def f_X4_fewestApart_B46 (now : HallV) (rL4 : Int32 → Int32 → Option (Int32)) (x1 : Int32) (x2 : Int32) : Option (Int32) := rL4 x1 (x2 + (1 : Int32))
def f_X4_fewestApart_B31 (now : HallV) (rL4 : Int32 → Int32 → Option (Int32)) (x1 : Int32) (x2 : Int32) (s0 : Int32) : Option (Int32) := if s0 = 0 then (f_X4_fewestApart_B46 now rL4 x1 x2) else (Option.bind (f_X4_tellsAllApart now x2) (fun q38 => if q38 = 0 then (f_X4_fewestApart_B46 now rL4 x1 x2) else (f_X4_fewestApart_B46 now rL4 x2 x2)))
def f_X4_fewestApart_B26 (now : HallV) (rL4 : Int32 → Int32 → Option (Int32)) (x1 : Int32) (x2 : Int32) : Option (Int32) := f_X4_fewestApart_B31 now rL4 x1 x2 (1 : Int32)
def f_X4_fewestApart_L4 (now : HallV)  : Nat → Int32 → Int32 → Option (Int32)
  | 0, _, _ => none
  | fu + 1, x1, x2 => if (32 : Int32) ≤ x2 then (some x1) else (if x1 = (-1 : Int32) then (f_X4_fewestApart_B26 now (f_X4_fewestApart_L4 now fu) x1 x2) else (Option.bind (f_J6_bitCount_0f7a4 x2) (fun q16 => Option.bind (f_J6_bitCount_0f7a4 x1) (fun q20 => if q20 ≤ q16 then (f_X4_fewestApart_B31 now (f_X4_fewestApart_L4 now fu) x1 x2 (0 : Int32)) else (f_X4_fewestApart_B26 now (f_X4_fewestApart_L4 now fu) x1 x2)))))
def f_X4_fewestApart (now : HallV)  : Option (Int32) := f_X4_fewestApart_L4 now FU (-1 : Int32) (0 : Int32)
set_option maxHeartbeats 4000000 in
set_option maxRecDepth 100000 in
theorem c_X4_fewestApart {D : va_G} {cs : Nat → ClassId} {sa : Nat → Nat} {n : Nat} {ad : Nat → Nat} {A : Nat → Prop} (l : Launch) {en : Nat → va_E}  {now : HallV}   {q : Int32} (hn : 110 ≤ n) (H_now : Hall cs ad en 1 now) (h : f_X4_fewestApart now = some q) : Met l yX4_fewestApart wsX4_fewestApart { frames := 5, cells := 0, slots := 0, locals := 115 } (va_Pc [.ref (ad 1)] (Wd D cs sa n ad A en)) (va_Qi (fun r u => q = r ∧ en = u) (Wd D cs sa n ad A) A) 0 0 A := by
  refine G_startI cX4_fewestApart 4 [(0, .ref (ad 1))] (by decide) rfl (Nat.le_of_ble_eq_true rfl) rfl ?_
  intro p e s m args below meth c Q hC hnm Kr
  have hL4 : ∀ (fu4 : Nat), ∀ (x1 : Int32) (x2 : Int32), f_X4_fewestApart_L4 now fu4 x1 x2 = some q → G p l e ({ frames := 5, cells := 0, slots := 0, locals := 115 } : Room) s m args below meth c D n ad A 4 0 0 Q en 4 [(0, .ref (ad 1)), (1, .int x1), (2, .int x2)] [] := by
    intro fu4
    induction fu4 with
    | zero =>
      intro x1 x2 h
      rw [f_X4_fewestApart_L4] at h
      cases h
    | succ fu4 ih4 =>
      have hB46 : ∀ (x1 : Int32) (x2 : Int32), f_X4_fewestApart_B46 now (f_X4_fewestApart_L4 now fu4) x1 x2 = some q → G p l e ({ frames := 5, cells := 0, slots := 0, locals := 115 } : Room) s m args below meth c D n ad A 4 0 0 Q en 46 [(0, .ref (ad 1)), (1, .int x1), (2, .int x2)] [] := by
        intro x1 x2 h
        unfold f_X4_fewestApart_B46 at h
        refine G_iinc hC 2 2 [(2, .int (x2 + (1 : Int32))), (0, .ref (ad 1)), (1, .int x1)] rfl rfl (by decide) rfl dX4_fewestApart_46 ?_
        refine G_goto hC 4 dX4_fewestApart_49 (by decide) ?_
        refine G_lv [1, 2, 0] rfl ?_
        exact ih4 _ _ h
      have hB31 : ∀ (x1 : Int32) (x2 : Int32) (s0 : Int32), f_X4_fewestApart_B31 now (f_X4_fewestApart_L4 now fu4) x1 x2 s0 = some q → G p l e ({ frames := 5, cells := 0, slots := 0, locals := 115 } : Room) s m args below meth c D n ad A 4 0 0 Q en 31 [(0, .ref (ad 1)), (1, .int x1), (2, .int x2)] [.int s0] := by
        intro x1 x2 s0 h
        unfold f_X4_fewestApart_B31 at h
        refine G_istore_n hC 3 [(3, .int s0), (0, .ref (ad 1)), (1, .int x1), (2, .int x2)] rfl (by decide) rfl dX4_fewestApart_31 ?_
        refine G_iload_n hC 3 0 rfl rfl dX4_fewestApart_32 ?_
        refine G_if_eq hC 46 dX4_fewestApart_33 (by decide) (fun c33 => ?_) (fun c33 => ?_)
        · have h := ifp c33 h
          refine G_lv [1, 2, 3] rfl ?_
          exact hB46 _ _ h
        have h := ifn c33 h
        refine G_aload_n hC 0 1 rfl rfl dX4_fewestApart_36 ?_
        refine G_iload_n hC 2 3 rfl rfl dX4_fewestApart_37 ?_
        obtain ⟨q38, h38, h⟩ := bnd h
        refine G_cSi (st := []) hC _ (c_X4_tellsAllApart  l (by omega) H_now h38) (va_cwS 2 hC.hts gX4_fewestApart_X4_tellsAllApart rfl rfl rfl (by decide +kernel) ⟨Nat.le_of_ble_eq_true rfl, Nat.le_of_ble_eq_true rfl⟩) rfl (Nat.le_of_ble_eq_true rfl) (Nat.zero_le _) (Nat.zero_le _) rfl dX4_fewestApart_38 (fun r38 enx hw => ?_)
        obtain ⟨rfl, rfl⟩ := hw
        refine G_if_eq hC 46 dX4_fewestApart_41 (by decide) (fun c41 => ?_) (fun c41 => ?_)
        · have h := ifp c41 h
          refine G_lv [1, 2, 3] rfl ?_
          exact hB46 _ _ h
        have h := ifn c41 h
        refine G_iload_n hC 2 3 rfl rfl dX4_fewestApart_44 ?_
        refine G_istore_n hC 1 [(1, .int x2), (3, .int s0), (0, .ref (ad 1)), (2, .int x2)] rfl (by decide) rfl dX4_fewestApart_45 ?_
        refine G_lv [2, 0, 3] rfl ?_
        exact hB46 _ _ h
      have hB26 : ∀ (x1 : Int32) (x2 : Int32), f_X4_fewestApart_B26 now (f_X4_fewestApart_L4 now fu4) x1 x2 = some q → G p l e ({ frames := 5, cells := 0, slots := 0, locals := 115 } : Room) s m args below meth c D n ad A 4 0 0 Q en 26 [(0, .ref (ad 1)), (1, .int x1), (2, .int x2)] [] := by
        intro x1 x2 h
        unfold f_X4_fewestApart_B26 at h
        refine G_iconst hC (v := 1) (by decide) dX4_fewestApart_26 ?_
        refine G_goto hC 31 dX4_fewestApart_27 (by decide) ?_
        refine G_lv [0, 1, 2] rfl ?_
        exact hB31 _ _ _ h
      intro x1 x2 h
      rw [f_X4_fewestApart_L4] at h
      refine G_iload_n hC 2 2 rfl rfl dX4_fewestApart_4 ?_
      refine G_bipush hC (v := 32) (by decide) dX4_fewestApart_5 ?_
      refine G_icmp_ge hC 52 dX4_fewestApart_7 (by decide) (fun c7 => ?_) (fun c7 => ?_)
      · have h := ifp c7 h
        refine G_iload_n hC 1 1 rfl rfl dX4_fewestApart_52 ?_
        have h := Option.some.inj h
        subst h
        exact Kr _ _ _ _ (nar_i _) ⟨rfl, rfl⟩ dX4_fewestApart_53
      have h := ifn c7 h
      refine G_iload_n hC 1 1 rfl rfl dX4_fewestApart_10 ?_
      refine G_iconst hC (v := (-1)) (by decide) dX4_fewestApart_11 ?_
      refine G_icmp_eq hC 26 dX4_fewestApart_12 (by decide) (fun c12 => ?_) (fun c12 => ?_)
      · have h := ifp c12 h
        refine G_lv [0, 1, 2] rfl ?_
        exact hB26 _ _ h
      have h := ifn c12 h
      refine G_iload_n hC 2 2 rfl rfl dX4_fewestApart_15 ?_
      obtain ⟨q16, h16, h⟩ := bnd h
      refine G_cSi (st := []) hC _ (c_J6_bitCount_0f7a4  l  h16) (va_cwS 1 hC.hts gX4_fewestApart_J6_bitCount_0f7a4 rfl rfl rfl (by decide +kernel) ⟨Nat.le_of_ble_eq_true rfl, Nat.le_of_ble_eq_true rfl⟩) rfl (Nat.le_of_ble_eq_true rfl) (Nat.zero_le _) (Nat.zero_le _) rfl dX4_fewestApart_16 (fun r16 enx hw => ?_)
      obtain ⟨rfl, rfl⟩ := hw
      refine G_iload_n hC 1 1 rfl rfl dX4_fewestApart_19 ?_
      obtain ⟨q20, h20, h⟩ := bnd h
      refine G_cSi (st := [.int q16]) hC _ (c_J6_bitCount_0f7a4  l  h20) (va_cwS 1 hC.hts gX4_fewestApart_J6_bitCount_0f7a4 rfl rfl rfl (by decide +kernel) ⟨Nat.le_of_ble_eq_true rfl, Nat.le_of_ble_eq_true rfl⟩) rfl (Nat.le_of_ble_eq_true rfl) (Nat.zero_le _) (Nat.zero_le _) rfl dX4_fewestApart_20 (fun r20 enx hw => ?_)
      obtain ⟨rfl, rfl⟩ := hw
      refine G_icmp_ge hC 30 dX4_fewestApart_23 (by decide) (fun c23 => ?_) (fun c23 => ?_)
      · have h := ifp c23 h
        refine G_iconst hC (v := 0) (by decide) dX4_fewestApart_30 ?_
        refine G_lv [0, 1, 2] rfl ?_
        exact hB31 _ _ _ h
      have h := ifn c23 h
      refine G_lv [0, 1, 2] rfl ?_
      exact hB26 _ _ h
  unfold f_X4_fewestApart at h
  refine G_iconst hC (v := (-1)) (by decide) dX4_fewestApart_0 ?_
  refine G_istore_n hC 1 [(1, .int (-1 : Int32)), (0, .ref (ad 1))] rfl (by decide) rfl dX4_fewestApart_1 ?_
  refine G_iconst hC (v := 0) (by decide) dX4_fewestApart_2 ?_
  refine G_istore_n hC 2 [(2, .int (0 : Int32)), (1, .int (-1 : Int32)), (0, .ref (ad 1))] rfl (by decide) rfl dX4_fewestApart_3 ?_
  refine G_lv [2, 1, 0] rfl ?_
  exact hL4 FU _ _ h
