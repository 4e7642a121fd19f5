def f_X11_in  (x0 : Int64) (x2 : Int64) (x4 : Int64) : Option (Int32) := if lg_cmp x0 x2 < 0 then (some (0 : Int32)) else (if 0 < lg_cmp x0 x4 then (some (0 : Int32)) else (some (1 : Int32)))
set_option maxHeartbeats 4000000 in
set_option maxRecDepth 100000 in
theorem c_X11_in {D : va_G} {cs : Nat → ClassId} {sa : Nat → Nat} {n : Nat} {ad : Nat → Nat} {A : Nat → Prop} (l : Launch) {en : Nat → va_E}   {x0 : Int64} {x2 : Int64} {x4 : Int64}  {q : Int32}   (h : f_X11_in x0 x2 x4 = some q) : Met l yX11_in wsX11_in { frames := 0, cells := 0, slots := 0, locals := 0 } (va_Pc [.long x0, .long x2, .long x4] (Wd D cs sa n ad A en)) (va_Qi (fun r u => q = r ∧ en = u) (Wd D cs sa n ad A) A) 0 0 A := by
  refine G_startI cX11_in 6 [(0, .long x0), (2, .long x2), (4, .long x4)] (by decide) rfl (Nat.le_of_ble_eq_true rfl) rfl ?_
  intro p e s m args below meth c Q hC hnm Kr
  unfold f_X11_in at h
  refine G_lload_n hC 0 0 rfl rfl dX11_in_0 ?_
  refine G_lload_n hC 2 1 rfl rfl dX11_in_1 ?_
  refine G_lcmp hC dX11_in_2 ?_
  refine G_if_lt hC 17 dX11_in_3 (by decide) (fun c3 => ?_) (fun c3 => ?_)
  · have h := ifp c3 h
    refine G_iconst hC (v := 0) (by decide) dX11_in_17 ?_
    have h := Option.some.inj h
    subst h
    exact Kr _ _ _ _ (by decide) ⟨rfl, rfl⟩ dX11_in_18
  have h := ifn c3 h
  refine G_lload_n hC 0 0 rfl rfl dX11_in_6 ?_
  refine G_lload hC 4 2 rfl dX11_in_7 ?_
  refine G_lcmp hC dX11_in_9 ?_
  refine G_if_gt hC 17 dX11_in_10 (by decide) (fun c10 => ?_) (fun c10 => ?_)
  · have h := ifp c10 h
    refine G_iconst hC (v := 0) (by decide) dX11_in_17 ?_
    have h := Option.some.inj h
    subst h
    exact Kr _ _ _ _ (by decide) ⟨rfl, rfl⟩ dX11_in_18
  have h := ifn c10 h
  refine G_iconst hC (v := 1) (by decide) dX11_in_13 ?_
  refine G_goto hC 18 dX11_in_14 (by decide) ?_
  have h := Option.some.inj h
  subst h
  exact Kr _ _ _ _ (by decide) ⟨rfl, rfl⟩ dX11_in_18
def f_X11_holds  (x0 : Int32) (x1 : Int32) : Option (Int32) := if (x0 >>> (x1 &&& (31 : Int32))) &&& (1 : Int32) = (1 : Int32) then (some (1 : Int32)) else (some (0 : Int32))
set_option maxHeartbeats 4000000 in
set_option maxRecDepth 100000 in
theorem c_X11_holds {D : va_G} {cs : Nat → ClassId} {sa : Nat → Nat} {n : Nat} {ad : Nat → Nat} {A : Nat → Prop} (l : Launch) {en : Nat → va_E}   {x0 : Int32} {x1 : Int32}  {q : Int32}   (h : f_X11_holds x0 x1 = some q) : Met l yX11_holds wsX11_holds { frames := 0, cells := 0, slots := 0, locals := 0 } (va_Pc [.int x0, .int x1] (Wd D cs sa n ad A en)) (va_Qi (fun r u => q = r ∧ en = u) (Wd D cs sa n ad A) A) 0 0 A := by
  refine G_startI cX11_holds 2 [(0, .int x0), (1, .int x1)] (by decide) rfl (Nat.le_of_ble_eq_true rfl) rfl ?_
  intro p e s m args below meth c Q hC hnm Kr
  unfold f_X11_holds at h
  refine G_iload_n hC 0 0 rfl rfl dX11_holds_0 ?_
  refine G_iload_n hC 1 1 rfl rfl dX11_holds_1 ?_
  refine G_ishr hC dX11_holds_2 ?_
  refine G_iconst hC (v := 1) (by decide) dX11_holds_3 ?_
  refine G_iand hC dX11_holds_4 ?_
  refine G_iconst hC (v := 1) (by decide) dX11_holds_5 ?_
  refine G_icmp_ne hC 13 dX11_holds_6 (by decide) (fun c6 => ?_) (fun c6 => ?_)
  · have h := ifn c6 h
    refine G_iconst hC (v := 0) (by decide) dX11_holds_13 ?_
    have h := Option.some.inj h
    subst h
    exact Kr _ _ _ _ (by decide) ⟨rfl, rfl⟩ dX11_holds_14
  have h := ifp c6 h
  refine G_iconst hC (v := 1) (by decide) dX11_holds_9 ?_
  refine G_goto hC 14 dX11_holds_10 (by decide) ?_
  have h := Option.some.inj h
  subst h
  exact Kr _ _ _ _ (by decide) ⟨rfl, rfl⟩ dX11_holds_14
def f_X11_ones_L4   : Nat → Int32 → Int32 → Int32 → Option (Int32)
  | 0, _, _, _ => none
  | fu + 1, x0, x1, x2 => if (12 : Int32) ≤ x2 then (some x1) else (f_X11_ones_L4 fu x0 (x1 + ((x0 >>> (x2 &&& (31 : Int32))) &&& (1 : Int32))) (x2 + (1 : Int32)))
def f_X11_ones  (x0 : Int32) : Option (Int32) := f_X11_ones_L4 FU x0 (0 : Int32) (0 : Int32)
set_option maxHeartbeats 4000000 in
set_option maxRecDepth 100000 in
theorem c_X11_ones {D : va_G} {cs : Nat → ClassId} {sa : Nat → Nat} {n : Nat} {ad : Nat → Nat} {A : Nat → Prop} (l : Launch) {en : Nat → va_E}   {x0 : Int32}  {q : Int32}   (h : f_X11_ones x0 = some q) : Met l yX11_ones wsX11_ones { frames := 0, cells := 0, slots := 0, locals := 0 } (va_Pc [.int x0] (Wd D cs sa n ad A en)) (va_Qi (fun r u => q = r ∧ en = u) (Wd D cs sa n ad A) A) 0 0 A := by
  refine G_startI cX11_ones 3 [(0, .int x0)] (by decide) rfl (Nat.le_of_ble_eq_true rfl) rfl ?_
  intro p e s m args below meth c Q hC hnm Kr
  have hL4 : ∀ (fu4 : Nat), ∀ (x0 : Int32) (x1 : Int32) (x2 : Int32), f_X11_ones_L4 fu4 x0 x1 x2 = some q → G p l e ({ frames := 0, cells := 0, slots := 0, locals := 0 } : Room) s m args below meth c D n ad A 3 0 0 Q en 4 [(0, .int x0), (1, .int x1), (2, .int x2)] [] := by
    intro fu4
    induction fu4 with
    | zero =>
      intro x0 x1 x2 h
      rw [f_X11_ones_L4] at h
      cases h
    | succ fu4 ih4 =>
      intro x0 x1 x2 h
      rw [f_X11_ones_L4] at h
      refine G_iload_n hC 2 2 rfl rfl dX11_ones_4 ?_
      refine G_bipush hC (v := 12) (by decide) dX11_ones_5 ?_
      refine G_icmp_ge hC 24 dX11_ones_7 (by decide) (fun c7 => ?_) (fun c7 => ?_)
      · have h := ifp c7 h
        refine G_iload_n hC 1 1 rfl rfl dX11_ones_24 ?_
        have h := Option.some.inj h
        subst h
        exact Kr _ _ _ _ (nar_i _) ⟨rfl, rfl⟩ dX11_ones_25
      have h := ifn c7 h
      refine G_iload_n hC 1 1 rfl rfl dX11_ones_10 ?_
      refine G_iload_n hC 0 0 rfl rfl dX11_ones_11 ?_
      refine G_iload_n hC 2 2 rfl rfl dX11_ones_12 ?_
      refine G_ishr hC dX11_ones_13 ?_
      refine G_iconst hC (v := 1) (by decide) dX11_ones_14 ?_
      refine G_iand hC dX11_ones_15 ?_
      refine G_iadd hC dX11_ones_16 ?_
      refine G_istore_n hC 1 [(1, .int (x1 + ((x0 >>> (x2 &&& (31 : Int32))) &&& (1 : Int32)))), (0, .int x0), (2, .int x2)] rfl (by decide) rfl dX11_ones_17 ?_
      refine G_iinc hC 2 2 [(2, .int (x2 + (1 : Int32))), (1, .int (x1 + ((x0 >>> (x2 &&& (31 : Int32))) &&& (1 : Int32)))), (0, .int x0)] rfl rfl (by decide) rfl dX11_ones_18 ?_
      refine G_goto hC 4 dX11_ones_21 (by decide) ?_
      refine G_lv [2, 1, 0] rfl ?_
      exact ih4 _ _ _ h
  unfold f_X11_ones at h
  refine G_iconst hC (v := 0) (by decide) dX11_ones_0 ?_
  refine G_istore_n hC 1 [(1, .int (0 : Int32)), (0, .int x0)] rfl (by decide) rfl dX11_ones_1 ?_
  refine G_iconst hC (v := 0) (by decide) dX11_ones_2 ?_
  refine G_istore_n hC 2 [(2, .int (0 : Int32)), (1, .int (0 : Int32)), (0, .int x0)] rfl (by decide) rfl dX11_ones_3 ?_
  refine G_lv [2, 1, 0] rfl ?_
  exact hL4 FU _ _ _ h
def f_X11_lesser  (x0 : Int32) (x1 : Int32) : Option (Int32) := if x1 ≤ x0 then (some x1) else (some x0)
set_option maxHeartbeats 4000000 in
set_option maxRecDepth 100000 in
theorem c_X11_lesser {D : va_G} {cs : Nat → ClassId} {sa : Nat → Nat} {n : Nat} {ad : Nat → Nat} {A : Nat → Prop} (l : Launch) {en : Nat → va_E}   {x0 : Int32} {x1 : Int32}  {q : Int32}   (h : f_X11_lesser x0 x1 = some q) : Met l yX11_lesser wsX11_lesser { frames := 0, cells := 0, slots := 0, locals := 0 } (va_Pc [.int x0, .int x1] (Wd D cs sa n ad A en)) (va_Qi (fun r u => q = r ∧ en = u) (Wd D cs sa n ad A) A) 0 0 A := by
  refine G_startI cX11_lesser 2 [(0, .int x0), (1, .int x1)] (by decide) rfl (Nat.le_of_ble_eq_true rfl) rfl ?_
  intro p e s m args below meth c Q hC hnm Kr
  unfold f_X11_lesser at h
  refine G_iload_n hC 0 0 rfl rfl dX11_lesser_0 ?_
  refine G_iload_n hC 1 1 rfl rfl dX11_lesser_1 ?_
  refine G_icmp_ge hC 9 dX11_lesser_2 (by decide) (fun c2 => ?_) (fun c2 => ?_)
  · have h := ifp c2 h
    refine G_iload_n hC 1 1 rfl rfl dX11_lesser_9 ?_
    have h := Option.some.inj h
    subst h
    exact Kr _ _ _ _ (nar_i _) ⟨rfl, rfl⟩ dX11_lesser_10
  have h := ifn c2 h
  refine G_iload_n hC 0 0 rfl rfl dX11_lesser_5 ?_
  refine G_goto hC 10 dX11_lesser_6 (by decide) ?_
  have h := Option.some.inj h
  subst h
  exact Kr _ _ _ _ (nar_i _) ⟨rfl, rfl⟩ dX11_lesser_10
def f_X11_lettersOf_L4   : Nat → Int32 → Int64 → Option (Int32)
  | 0, _, _ => none
  | fu + 1, x2, x3 => if lg_cmp x3 (0 : Int64) ≤ 0 then (some x2) else (f_X11_lettersOf_L4 fu (x2 + (1 : Int32)) (x3 / (32 : Int64)))
def f_X11_lettersOf  (x0 : Int64) : Option (Int32) := f_X11_lettersOf_L4 FU (0 : Int32) x0
set_option maxHeartbeats 4000000 in
set_option maxRecDepth 100000 in
theorem c_X11_lettersOf {D : va_G} {cs : Nat → ClassId} {sa : Nat → Nat} {n : Nat} {ad : Nat → Nat} {A : Nat → Prop} (l : Launch) {en : Nat → va_E}   {x0 : Int64}  {q : Int32}   (h : f_X11_lettersOf x0 = some q) : Met l yX11_lettersOf wsX11_lettersOf { frames := 0, cells := 0, slots := 0, locals := 0 } (va_Pc [.long x0] (Wd D cs sa n ad A en)) (va_Qi (fun r u => q = r ∧ en = u) (Wd D cs sa n ad A) A) 0 0 A := by
  refine G_startI cX11_lettersOf 5 [(0, .long x0)] (by decide) rfl (Nat.le_of_ble_eq_true rfl) rfl ?_
  intro p e s m args below meth c Q hC hnm Kr
  have k51 : Cond.constantLong RX11 51 (32) ∈ wsX11_lettersOf := by decide +kernel
  have hL4 : ∀ (fu4 : Nat), ∀ (x2 : Int32) (x3 : Int64), f_X11_lettersOf_L4 fu4 x2 x3 = some q → G p l e ({ frames := 0, cells := 0, slots := 0, locals := 0 } : Room) s m args below meth c D n ad A 5 0 0 Q en 4 [(2, .int x2), (3, .long x3)] [] := by
    intro fu4
    induction fu4 with
    | zero =>
      intro x2 x3 h
      rw [f_X11_lettersOf_L4] at h
      cases h
    | succ fu4 ih4 =>
      intro x2 x3 h
      rw [f_X11_lettersOf_L4] at h
      refine G_lload_n hC 3 1 rfl rfl dX11_lettersOf_4 ?_
      refine G_lconst hC (v := 0) (by decide) dX11_lettersOf_5 ?_
      refine G_lcmp hC dX11_lettersOf_6 ?_
      refine G_if_le hC 22 dX11_lettersOf_7 (by decide) (fun c7 => ?_) (fun c7 => ?_)
      · have h := ifp c7 h
        refine G_iload_n hC 2 0 rfl rfl dX11_lettersOf_22 ?_
        have h := Option.some.inj h
        subst h
        exact Kr _ _ _ _ (nar_i _) ⟨rfl, rfl⟩ dX11_lettersOf_23
      have h := ifn c7 h
      refine G_iinc hC 2 0 [(2, .int (x2 + (1 : Int32))), (3, .long x3)] rfl rfl (by decide) rfl dX11_lettersOf_10 ?_
      refine G_lload_n hC 3 1 rfl rfl dX11_lettersOf_13 ?_
      refine G_ldc2 hC (v := (32)) k51 dX11_lettersOf_14 ?_
      refine G_ldiv hC (by decide) dX11_lettersOf_17 ?_
      refine G_lstore_n hC 3 [(3, .long (x3 / (32 : Int64))), (2, .int (x2 + (1 : Int32)))] rfl (by decide) rfl dX11_lettersOf_18 ?_
      refine G_goto hC 4 dX11_lettersOf_19 (by decide) ?_
      refine G_lv [1, 0] rfl ?_
      exact ih4 _ _ h
  unfold f_X11_lettersOf at h
  refine G_iconst hC (v := 0) (by decide) dX11_lettersOf_0 ?_
  refine G_istore_n hC 2 [(2, .int (0 : Int32)), (0, .long x0)] rfl (by decide) rfl dX11_lettersOf_1 ?_
  refine G_lload_n hC 0 1 rfl rfl dX11_lettersOf_2 ?_
  refine G_lstore_n hC 3 [(3, .long x0), (2, .int (0 : Int32)), (0, .long x0)] rfl (by decide) rfl dX11_lettersOf_3 ?_
  refine G_lv [1, 0] rfl ?_
  exact hL4 FU _ _ h
def f_X11_letterOf_L10   : Nat → Int32 → Int64 → Int32 → Option (Int32)
  | 0, _, _, _ => none
  | fu + 1, x2, x3, x5 => if x5 ≤ x2 then (some ((lrm x3 (32 : Int64)).toInt32)) else (f_X11_letterOf_L10 fu x2 (x3 / (32 : Int64)) (x5 + (-1 : Int32)))
def f_X11_letterOf  (x0 : Int64) (x2 : Int32) : Option (Int32) := Option.bind (f_X11_lettersOf x0) (fun q3 => f_X11_letterOf_L10 FU x2 x0 (q3 - (1 : Int32)))
set_option maxHeartbeats 4000000 in
set_option maxRecDepth 100000 in
theorem c_X11_letterOf {D : va_G} {cs : Nat → ClassId} {sa : Nat → Nat} {n : Nat} {ad : Nat → Nat} {A : Nat → Prop} (l : Launch) {en : Nat → va_E}   {x0 : Int64} {x2 : Int32}  {q : Int32}   (h : f_X11_letterOf x0 x2 = some q) : Met l yX11_letterOf wsX11_letterOf { frames := 1, cells := 0, slots := 0, locals := 24 } (va_Pc [.long x0, .int x2] (Wd D cs sa n ad A en)) (va_Qi (fun r u => q = r ∧ en = u) (Wd D cs sa n ad A) A) 0 0 A := by
  refine G_startI cX11_letterOf 6 [(0, .long x0), (2, .int x2)] (by decide) rfl (Nat.le_of_ble_eq_true rfl) rfl ?_
  intro p e s m args below meth c Q hC hnm Kr
  have k51 : Cond.constantLong RX11 51 (32) ∈ wsX11_letterOf := by decide +kernel
  have hL10 : ∀ (fu10 : Nat), ∀ (x2 : Int32) (x3 : Int64) (x5 : Int32), f_X11_letterOf_L10 fu10 x2 x3 x5 = some q → G p l e ({ frames := 1, cells := 0, slots := 0, locals := 24 } : Room) s m args below meth c D n ad A 6 0 0 Q en 10 [(2, .int x2), (3, .long x3), (5, .int x5)] [] := by
    intro fu10
    induction fu10 with
    | zero =>
      intro x2 x3 x5 h
      rw [f_X11_letterOf_L10] at h
      cases h
    | succ fu10 ih10 =>
      intro x2 x3 x5 h
      rw [f_X11_letterOf_L10] at h
      refine G_iload hC 5 2 rfl dX11_letterOf_10 ?_
      refine G_iload_n hC 2 0 rfl rfl dX11_letterOf_12 ?_
      refine G_icmp_le hC 28 dX11_letterOf_13 (by decide) (fun c13 => ?_) (fun c13 => ?_)
      · have h := ifp c13 h
        refine G_lload_n hC 3 1 rfl rfl dX11_letterOf_28 ?_
        refine G_ldc2 hC (v := (32)) k51 dX11_letterOf_29 ?_
        refine G_lrem hC (by decide) dX11_letterOf_32 ?_
        refine G_l2i hC dX11_letterOf_33 ?_
        have h := Option.some.inj h
        subst h
        exact Kr _ _ _ _ (nar_i _) ⟨rfl, rfl⟩ dX11_letterOf_34
      have h := ifn c13 h
      refine G_lload_n hC 3 1 rfl rfl dX11_letterOf_16 ?_
      refine G_ldc2 hC (v := (32)) k51 dX11_letterOf_17 ?_
      refine G_ldiv hC (by decide) dX11_letterOf_20 ?_
      refine G_lstore_n hC 3 [(3, .long (x3 / (32 : Int64))), (2, .int x2), (5, .int x5)] rfl (by decide) rfl dX11_letterOf_21 ?_
      refine G_iinc hC 5 2 [(5, .int (x5 + (-1 : Int32))), (3, .long (x3 / (32 : Int64))), (2, .int x2)] rfl (congrArg (fun z => x5 + z) (by decide : Int32.ofInt (-1) = (-1 : Int32))) (by decide) rfl dX11_letterOf_22 ?_
      refine G_goto hC 10 dX11_letterOf_25 (by decide) ?_
      refine G_lv [2, 1, 0] rfl ?_
      exact ih10 _ _ _ h
  unfold f_X11_letterOf at h
  refine G_lload_n hC 0 0 rfl rfl dX11_letterOf_0 ?_
  refine G_lstore_n hC 3 [(3, .long x0), (0, .long x0), (2, .int x2)] rfl (by decide) rfl dX11_letterOf_1 ?_
  refine G_lload_n hC 0 1 rfl rfl dX11_letterOf_2 ?_
  obtain ⟨q3, h3, h⟩ := bnd h
  refine G_cSi (st := []) hC _ (c_X11_lettersOf  l  h3) (va_cwS 1 hC.hts gX11_letterOf_X11_lettersOf rfl rfl rfl (by decide +kernel) ⟨Nat.le_of_ble_eq_true rfl, Nat.le_of_ble_eq_true rfl⟩) rfl (Nat.le_of_ble_eq_true rfl) (Nat.zero_le _) (Nat.zero_le _) rfl dX11_letterOf_3 (fun r3 enx hw => ?_)
  obtain ⟨rfl, rfl⟩ := hw
  refine G_iconst hC (v := 1) (by decide) dX11_letterOf_6 ?_
  refine G_isub hC dX11_letterOf_7 ?_
  refine G_istore hC 5 [(5, .int (q3 - (1 : Int32))), (3, .long x0), (0, .long x0), (2, .int x2)] (by decide) rfl dX11_letterOf_8 ?_
  refine G_lv [3, 1, 0] rfl ?_
  exact hL10 FU _ _ _ h
def f_X11_isName_B51  (rL21 : Int32 → Int64 → Option (Int32)) (x3 : Int64) (s0 : Int32) : Option (Int32) := rL21 s0 (x3 / (32 : Int64))
def f_X11_isName_B50  (rL21 : Int32 → Int64 → Option (Int32)) (x3 : Int64) : Option (Int32) := f_X11_isName_B51 rL21 x3 (0 : Int32)
def f_X11_isName_L21   : Nat → Int32 → Int64 → Option (Int32)
  | 0, _, _ => none
  | fu + 1, x2, x3 => if lg_cmp x3 (0 : Int64) ≤ 0 then (if x2 = 0 ∨ x2 = 1 then (some x2) else none) else (if x2 = 0 then (f_X11_isName_B50 (f_X11_isName_L21 fu) x3) else (Option.bind (f_X11_in (lrm x3 (32 : Int64)) (1 : Int64) (26 : Int64)) (fun q40 => if q40 = 0 then (f_X11_isName_B50 (f_X11_isName_L21 fu) x3) else (f_X11_isName_B51 (f_X11_isName_L21 fu) x3 (1 : Int32)))))
def f_X11_isName  (x0 : Int64) : Option (Int32) := if lg_cmp x0 (0 : Int64) ≤ 0 then (some (0 : Int32)) else (Option.bind (f_X11_lettersOf x0) (fun q7 => if q7 ≤ (7 : Int32) then (f_X11_isName_L21 FU (1 : Int32) x0) else (some (0 : Int32))))
set_option maxHeartbeats 4000000 in
set_option maxRecDepth 100000 in
theorem c_X11_isName {D : va_G} {cs : Nat → ClassId} {sa : Nat → Nat} {n : Nat} {ad : Nat → Nat} {A : Nat → Prop} (l : Launch) {en : Nat → va_E}   {x0 : Int64}  {q : Int32}   (h : f_X11_isName x0 = some q) : Met l yX11_isName wsX11_isName { frames := 1, cells := 0, slots := 0, locals := 25 } (va_Pc [.long x0] (Wd D cs sa n ad A en)) (va_Qi (fun r u => q = r ∧ en = u) (Wd D cs sa n ad A) A) 0 0 A := by
  refine G_startI cX11_isName 5 [(0, .long x0)] (by decide) rfl (Nat.le_of_ble_eq_true rfl) rfl ?_
  intro p e s m args below meth c Q hC hnm Kr
  have k51 : Cond.constantLong RX11 51 (32) ∈ wsX11_isName := by decide +kernel
  have k57 : Cond.constantLong RX11 57 (26) ∈ wsX11_isName := by decide +kernel
  have hL21 : ∀ (fu21 : Nat), ∀ (x2 : Int32) (x3 : Int64), f_X11_isName_L21 fu21 x2 x3 = some q → G p l e ({ frames := 1, cells := 0, slots := 0, locals := 25 } : Room) s m args below meth c D n ad A 5 0 0 Q en 21 [(2, .int x2), (3, .long x3)] [] := by
    intro fu21
    induction fu21 with
    | zero =>
      intro x2 x3 h
      rw [f_X11_isName_L21] at h
      cases h
    | succ fu21 ih21 =>
      have hB51 : ∀ (x3 : Int64) (s0 : Int32), f_X11_isName_B51 (f_X11_isName_L21 fu21) x3 s0 = some q → G p l e ({ frames := 1, cells := 0, slots := 0, locals := 25 } : Room) s m args below meth c D n ad A 5 0 0 Q en 51 [(3, .long x3)] [.int s0] := by
        intro x3 s0 h
        unfold f_X11_isName_B51 at h
        refine G_istore_n hC 2 [(2, .int s0), (3, .long x3)] rfl (by decide) rfl dX11_isName_51 ?_
        refine G_lload_n hC 3 1 rfl rfl dX11_isName_52 ?_
        refine G_ldc2 hC (v := (32)) k51 dX11_isName_53 ?_
        refine G_ldiv hC (by decide) dX11_isName_56 ?_
        refine G_lstore_n hC 3 [(3, .long (x3 / (32 : Int64))), (2, .int s0)] rfl (by decide) rfl dX11_isName_57 ?_
        refine G_goto hC 21 dX11_isName_58 (by decide) ?_
        refine G_lv [1, 0] rfl ?_
        exact ih21 _ _ h
      have hB50 : ∀ (x3 : Int64), f_X11_isName_B50 (f_X11_isName_L21 fu21) x3 = some q → G p l e ({ frames := 1, cells := 0, slots := 0, locals := 25 } : Room) s m args below meth c D n ad A 5 0 0 Q en 50 [(3, .long x3)] [] := by
        intro x3 h
        unfold f_X11_isName_B50 at h
        refine G_iconst hC (v := 0) (by decide) dX11_isName_50 ?_
        refine G_lv [0] rfl ?_
        exact hB51 _ _ h
      intro x2 x3 h
      rw [f_X11_isName_L21] at h
      refine G_lload_n hC 3 1 rfl rfl dX11_isName_21 ?_
      refine G_lconst hC (v := 0) (by decide) dX11_isName_22 ?_
      refine G_lcmp hC dX11_isName_23 ?_
      refine G_if_le hC 61 dX11_isName_24 (by decide) (fun c24 => ?_) (fun c24 => ?_)
      · have h := ifp c24 h
        refine G_iload_n hC 2 0 rfl rfl dX11_isName_61 ?_
        obtain ⟨g62, h⟩ := asr h
        have h := Option.some.inj h
        subst h
        exact Kr _ _ _ _ (nar_b g62) ⟨rfl, rfl⟩ dX11_isName_62
      have h := ifn c24 h
      refine G_iload_n hC 2 0 rfl rfl dX11_isName_27 ?_
      refine G_if_eq hC 50 dX11_isName_28 (by decide) (fun c28 => ?_) (fun c28 => ?_)
      · have h := ifp c28 h
        refine G_lv [1] rfl ?_
        exact hB50 _ h
      have h := ifn c28 h
      refine G_lload_n hC 3 1 rfl rfl dX11_isName_31 ?_
      refine G_ldc2 hC (v := (32)) k51 dX11_isName_32 ?_
      refine G_lrem hC (by decide) dX11_isName_35 ?_
      refine G_lconst hC (v := 1) (by decide) dX11_isName_36 ?_
      refine G_ldc2 hC (v := (26)) k57 dX11_isName_37 ?_
      obtain ⟨q40, h40, h⟩ := bnd h
      refine G_cSi (st := []) hC _ (c_X11_in  l  h40) (va_cwS 3 hC.hts gX11_isName_X11_in rfl rfl rfl (by decide +kernel) ⟨Nat.le_of_ble_eq_true rfl, Nat.le_of_ble_eq_true rfl⟩) rfl (Nat.le_of_ble_eq_true rfl) (Nat.zero_le _) (Nat.zero_le _) rfl dX11_isName_40 (fun r40 enx hw => ?_)
      obtain ⟨rfl, rfl⟩ := hw
      refine G_if_eq hC 50 dX11_isName_43 (by decide) (fun c43 => ?_) (fun c43 => ?_)
      · have h := ifp c43 h
        refine G_lv [1] rfl ?_
        exact hB50 _ h
      have h := ifn c43 h
      refine G_iconst hC (v := 1) (by decide) dX11_isName_46 ?_
      refine G_goto hC 51 dX11_isName_47 (by decide) ?_
      refine G_lv [1] rfl ?_
      exact hB51 _ _ h
  unfold f_X11_isName at h
  refine G_lload_n hC 0 0 rfl rfl dX11_isName_0 ?_
  refine G_lconst hC (v := 0) (by decide) dX11_isName_1 ?_
  refine G_lcmp hC dX11_isName_2 ?_
  refine G_if_le hC 15 dX11_isName_3 (by decide) (fun c3 => ?_) (fun c3 => ?_)
  · have h := ifp c3 h
    refine G_iconst hC (v := 0) (by decide) dX11_isName_15 ?_
    have h := Option.some.inj h
    subst h
    exact Kr _ _ _ _ (by decide) ⟨rfl, rfl⟩ dX11_isName_16
  have h := ifn c3 h
  refine G_lload_n hC 0 0 rfl rfl dX11_isName_6 ?_
  obtain ⟨q7, h7, h⟩ := bnd h
  refine G_cSi (st := []) hC _ (c_X11_lettersOf  l  h7) (va_cwS 1 hC.hts gX11_isName_X11_lettersOf rfl rfl rfl (by decide +kernel) ⟨Nat.le_of_ble_eq_true rfl, Nat.le_of_ble_eq_true rfl⟩) rfl (Nat.le_of_ble_eq_true rfl) (Nat.zero_le _) (Nat.zero_le _) rfl dX11_isName_7 (fun r7 enx hw => ?_)
  obtain ⟨rfl, rfl⟩ := hw
  refine G_bipush hC (v := 7) (by decide) dX11_isName_10 ?_
  refine G_icmp_le hC 17 dX11_isName_12 (by decide) (fun c12 => ?_) (fun c12 => ?_)
  · have h := ifp c12 h
    refine G_iconst hC (v := 1) (by decide) dX11_isName_17 ?_
    refine G_istore_n hC 2 [(2, .int (1 : Int32)), (0, .long x0)] rfl (by decide) rfl dX11_isName_18 ?_
    refine G_lload_n hC 0 1 rfl rfl dX11_isName_19 ?_
    refine G_lstore_n hC 3 [(3, .long x0), (2, .int (1 : Int32)), (0, .long x0)] rfl (by decide) rfl dX11_isName_20 ?_
    refine G_lv [1, 0] rfl ?_
    exact hL21 FU _ _ h
  have h := ifn c12 h
  refine G_iconst hC (v := 0) (by decide) dX11_isName_15 ?_
  have h := Option.some.inj h
  subst h
  exact Kr _ _ _ _ (by decide) ⟨rfl, rfl⟩ dX11_isName_16
def f_X11_wordOf  (x0 : Int64) : Option (Int32) := if lg_cmp x0 (15813 : Int64) = 0 then (some (0 : Int32)) else (if lg_cmp x0 (21081 : Int64) = 0 then (some (1 : Int32)) else (if lg_cmp x0 (1643 : Int64) = 0 then (some (2 : Int32)) else (if lg_cmp x0 (267845 : Int64) = 0 then (some (3 : Int32)) else (if lg_cmp x0 (6336915 : Int64) = 0 then (some (4 : Int32)) else (some (-1 : Int32))))))
set_option maxHeartbeats 4000000 in
set_option maxRecDepth 100000 in
theorem c_X11_wordOf {D : va_G} {cs : Nat → ClassId} {sa : Nat → Nat} {n : Nat} {ad : Nat → Nat} {A : Nat → Prop} (l : Launch) {en : Nat → va_E}   {x0 : Int64}  {q : Int32}   (h : f_X11_wordOf x0 = some q) : Met l yX11_wordOf wsX11_wordOf { frames := 0, cells := 0, slots := 0, locals := 0 } (va_Pc [.long x0] (Wd D cs sa n ad A en)) (va_Qi (fun r u => q = r ∧ en = u) (Wd D cs sa n ad A) A) 0 0 A := by
  refine G_startI cX11_wordOf 2 [(0, .long x0)] (by decide) rfl (Nat.le_of_ble_eq_true rfl) rfl ?_
  intro p e s m args below meth c Q hC hnm Kr
  have k140 : Cond.constantLong RX11 140 (15813) ∈ wsX11_wordOf := by decide +kernel
  have k142 : Cond.constantLong RX11 142 (21081) ∈ wsX11_wordOf := by decide +kernel
  have k144 : Cond.constantLong RX11 144 (1643) ∈ wsX11_wordOf := by decide +kernel
  have k146 : Cond.constantLong RX11 146 (267845) ∈ wsX11_wordOf := by decide +kernel
  have k148 : Cond.constantLong RX11 148 (6336915) ∈ wsX11_wordOf := by decide +kernel
  unfold f_X11_wordOf at h
  refine G_lload_n hC 0 0 rfl rfl dX11_wordOf_0 ?_
  refine G_ldc2 hC (v := (15813)) k140 dX11_wordOf_1 ?_
  refine G_lcmp hC dX11_wordOf_4 ?_
  refine G_if_ne hC 12 dX11_wordOf_5 (by decide) (fun c5 => ?_) (fun c5 => ?_)
  · have h := ifn c5 h
    refine G_lload_n hC 0 0 rfl rfl dX11_wordOf_12 ?_
    refine G_ldc2 hC (v := (21081)) k142 dX11_wordOf_13 ?_
    refine G_lcmp hC dX11_wordOf_16 ?_
    refine G_if_ne hC 24 dX11_wordOf_17 (by decide) (fun c17 => ?_) (fun c17 => ?_)
    · have h := ifn c17 h
      refine G_lload_n hC 0 0 rfl rfl dX11_wordOf_24 ?_
      refine G_ldc2 hC (v := (1643)) k144 dX11_wordOf_25 ?_
      refine G_lcmp hC dX11_wordOf_28 ?_
      refine G_if_ne hC 36 dX11_wordOf_29 (by decide) (fun c29 => ?_) (fun c29 => ?_)
      · have h := ifn c29 h
        refine G_lload_n hC 0 0 rfl rfl dX11_wordOf_36 ?_
        refine G_ldc2 hC (v := (267845)) k146 dX11_wordOf_37 ?_
        refine G_lcmp hC dX11_wordOf_40 ?_
        refine G_if_ne hC 48 dX11_wordOf_41 (by decide) (fun c41 => ?_) (fun c41 => ?_)
        · have h := ifn c41 h
          refine G_lload_n hC 0 0 rfl rfl dX11_wordOf_48 ?_
          refine G_ldc2 hC (v := (6336915)) k148 dX11_wordOf_49 ?_
          refine G_lcmp hC dX11_wordOf_52 ?_
          refine G_if_ne hC 60 dX11_wordOf_53 (by decide) (fun c53 => ?_) (fun c53 => ?_)
          · have h := ifn c53 h
            refine G_iconst hC (v := (-1)) (by decide) dX11_wordOf_60 ?_
            have h := Option.some.inj h
            subst h
            exact Kr _ _ _ _ (nar_i _) ⟨rfl, rfl⟩ dX11_wordOf_61
          have h := ifp c53 h
          refine G_iconst hC (v := 4) (by decide) dX11_wordOf_56 ?_
          refine G_goto hC 61 dX11_wordOf_57 (by decide) ?_
          have h := Option.some.inj h
          subst h
          exact Kr _ _ _ _ (nar_i _) ⟨rfl, rfl⟩ dX11_wordOf_61
        have h := ifp c41 h
        refine G_iconst hC (v := 3) (by decide) dX11_wordOf_44 ?_
        refine G_goto hC 61 dX11_wordOf_45 (by decide) ?_
        have h := Option.some.inj h
        subst h
        exact Kr _ _ _ _ (nar_i _) ⟨rfl, rfl⟩ dX11_wordOf_61
      have h := ifp c29 h
      refine G_iconst hC (v := 2) (by decide) dX11_wordOf_32 ?_
      refine G_goto hC 61 dX11_wordOf_33 (by decide) ?_
      have h := Option.some.inj h
      subst h
      exact Kr _ _ _ _ (nar_i _) ⟨rfl, rfl⟩ dX11_wordOf_61
    have h := ifp c17 h
    refine G_iconst hC (v := 1) (by decide) dX11_wordOf_20 ?_
    refine G_goto hC 61 dX11_wordOf_21 (by decide) ?_
    have h := Option.some.inj h
    subst h
    exact Kr _ _ _ _ (nar_i _) ⟨rfl, rfl⟩ dX11_wordOf_61
  have h := ifp c5 h
  refine G_iconst hC (v := 0) (by decide) dX11_wordOf_8 ?_
  refine G_goto hC 61 dX11_wordOf_9 (by decide) ?_
  have h := Option.some.inj h
  subst h
  exact Kr _ _ _ _ (nar_i _) ⟨rfl, rfl⟩ dX11_wordOf_61
def f_X11_numbersOf  (x0 : Int32) : Option (Int32) := if x0 = 0 then (some (5 : Int32)) else (if x0 = (1 : Int32) then (some (3 : Int32)) else (if x0 = (2 : Int32) then (some (2 : Int32)) else (some (1 : Int32))))
set_option maxHeartbeats 4000000 in
set_option maxRecDepth 100000 in
theorem c_X11_numbersOf {D : va_G} {cs : Nat → ClassId} {sa : Nat → Nat} {n : Nat} {ad : Nat → Nat} {A : Nat → Prop} (l : Launch) {en : Nat → va_E}   {x0 : Int32}  {q : Int32}   (h : f_X11_numbersOf x0 = some q) : Met l yX11_numbersOf wsX11_numbersOf { frames := 0, cells := 0, slots := 0, locals := 0 } (va_Pc [.int x0] (Wd D cs sa n ad A en)) (va_Qi (fun r u => q = r ∧ en = u) (Wd D cs sa n ad A) A) 0 0 A := by
  refine G_startI cX11_numbersOf 1 [(0, .int x0)] (by decide) rfl (Nat.le_of_ble_eq_true rfl) rfl ?_
  intro p e s m args below meth c Q hC hnm Kr
  unfold f_X11_numbersOf at h
  refine G_iload_n hC 0 0 rfl rfl dX11_numbersOf_0 ?_
  refine G_if_ne hC 8 dX11_numbersOf_1 (by decide) (fun c1 => ?_) (fun c1 => ?_)
  · have h := ifn c1 h
    refine G_iload_n hC 0 0 rfl rfl dX11_numbersOf_8 ?_
    refine G_iconst hC (v := 1) (by decide) dX11_numbersOf_9 ?_
    refine G_icmp_ne hC 17 dX11_numbersOf_10 (by decide) (fun c10 => ?_) (fun c10 => ?_)
    · have h := ifn c10 h
      refine G_iload_n hC 0 0 rfl rfl dX11_numbersOf_17 ?_
      refine G_iconst hC (v := 2) (by decide) dX11_numbersOf_18 ?_
      refine G_icmp_ne hC 26 dX11_numbersOf_19 (by decide) (fun c19 => ?_) (fun c19 => ?_)
      · have h := ifn c19 h
        refine G_iconst hC (v := 1) (by decide) dX11_numbersOf_26 ?_
        have h := Option.some.inj h
        subst h
        exact Kr _ _ _ _ (nar_i _) ⟨rfl, rfl⟩ dX11_numbersOf_27
      have h := ifp c19 h
      refine G_iconst hC (v := 2) (by decide) dX11_numbersOf_22 ?_
      refine G_goto hC 27 dX11_numbersOf_23 (by decide) ?_
      have h := Option.some.inj h
      subst h
      exact Kr _ _ _ _ (nar_i _) ⟨rfl, rfl⟩ dX11_numbersOf_27
    have h := ifp c10 h
    refine G_iconst hC (v := 3) (by decide) dX11_numbersOf_13 ?_
    refine G_goto hC 27 dX11_numbersOf_14 (by decide) ?_
    have h := Option.some.inj h
    subst h
    exact Kr _ _ _ _ (nar_i _) ⟨rfl, rfl⟩ dX11_numbersOf_27
  have h := ifp c1 h
  refine G_iconst hC (v := 5) (by decide) dX11_numbersOf_4 ?_
  refine G_goto hC 27 dX11_numbersOf_5 (by decide) ?_
  have h := Option.some.inj h
  subst h
  exact Kr _ _ _ _ (nar_i _) ⟨rfl, rfl⟩ dX11_numbersOf_27
def f_X11_told_B18   (mrefused : Nat → Int32) (x1 : Int32) : Option (Int32 × (Nat → Int32)) := if (-2 : Int32) - x1 < 0 ∨ 3 ≤ ((-2 : Int32) - x1).toNatClampNeg then none else (if (-2 : Int32) - x1 < 0 ∨ 3 ≤ ((-2 : Int32) - x1).toNatClampNeg then none else (some (x1, upd mrefused ((-2 : Int32) - x1).toNatClampNeg ((mrefused ((-2 : Int32) - x1).toNatClampNeg) + (1 : Int32)))))
def f_X11_told (mrefused : Nat → Int32) (x1 : Int32) : Option (Int32 × (Nat → Int32)) := if x1 = (-2 : Int32) then (f_X11_told_B18 mrefused x1) else (if x1 = (-3 : Int32) then (f_X11_told_B18 mrefused x1) else (if x1 = (-4 : Int32) then (f_X11_told_B18 mrefused x1) else (some (x1, mrefused))))
set_option maxHeartbeats 4000000 in
set_option maxRecDepth 100000 in
theorem c_X11_told {D : va_G} {cs : Nat → ClassId} {sa : Nat → Nat} {n : Nat} {ad : Nat → Nat} {A : Nat → Prop} (l : Launch) {en : Nat → va_E}  {mtexted : Int32} {mundo : Int32} {mabove : Int64} {mbelow : Int64} {mrefused : Nat → Int32} {mitems : Int32} {mat : Int32} {mfault : Int32} {mtakes : Int32} {mmisses : Int64} {mbest : Int64} {mh : Int64} {x1 : Int32}  {q : Int32 × (Nat → Int32)} (hn : 110 ≤ n) (e_model : en 100 = .inr (8, [.ref (ad 101), .ref (ad 102), .ref (ad 103), .ref (ad 104), .int mtexted, .int mundo, .long mabove, .long mbelow, .ref (ad 105), .ref (ad 106), .ref (ad 107), .ref (ad 108), .int mitems, .int mat, .int mfault, .int mtakes, .long mmisses, .long mbest, .ref (ad 109), .long mh])) (e_mrefusedarr : en 105 = .inl (cs 1, 3, .inl (mrefused))) (h : f_X11_told mrefused x1 = some q) : Met l yX11_told wsX11_told { frames := 0, cells := 0, slots := 0, locals := 0 } (va_Pc [.ref (ad 100), .int x1] (Wd D cs sa n ad A en)) (va_Qi (fun r u => q.1 = r ∧ u 105 = .inl (cs 1, 3, .inl (q.2)) ∧ (∀ j, (j < 105 ∨ 106 ≤ j) → u j = en j)) (Wd D cs sa n ad A) A) 0 0 A := by
  refine G_startI cX11_told 2 [(0, .ref (ad 100)), (1, .int x1)] (by decide) rfl (Nat.le_of_ble_eq_true rfl) rfl ?_
  intro p e s m args below meth c Q hC hnm Kr
  have inX11 : ∀ w ∈ u_ws RX11 TX11 20, w ∈ wsX11_told := by decide +kernel
  have m28 : Cond.fieldLink RX11 28 "TongueTipModel" "refused" "[I" ∈ wsX11_told := by decide +kernel
  have hB18 : ∀ (en1 : Nat → va_E) (mrefused : Nat → Int32) (x1 : Int32), en1 100 = .inr (8, [.ref (ad 101), .ref (ad 102), .ref (ad 103), .ref (ad 104), .int mtexted, .int mundo, .long mabove, .long mbelow, .ref (ad 105), .ref (ad 106), .ref (ad 107), .ref (ad 108), .int mitems, .int mat, .int mfault, .int mtakes, .long mmisses, .long mbest, .ref (ad 109), .long mh]) → en1 105 = .inl (cs 1, 3, .inl (mrefused)) → (∀ j, (j < 105 ∨ 106 ≤ j) → en1 j = en j) → f_X11_told_B18 mrefused x1 = some q → G p l e ({ frames := 0, cells := 0, slots := 0, locals := 0 } : Room) s m args below meth c D n ad A 2 0 0 Q en1 18 [(0, .ref (ad 100)), (1, .int x1)] [] := by
    intro en1 mrefused x1 e_model e_mrefusedarr hfr h
    unfold f_X11_told_B18 at h
    refine G_aload_n hC 0 0 rfl rfl dX11_told_18 ?_
    refine G_get hC inX11 100 (by omega) (v := .ref (ad 105)) e_model rfl 8 (by decide) m28 rfl rfl dX11_told_19 ?_
    refine G_bipush hC (v := (-2)) (by decide) dX11_told_22 ?_
    refine G_iload_n hC 1 1 rfl rfl dX11_told_24 ?_
    refine G_isub hC dX11_told_25 ?_
    refine G_dup2_11 hC rfl rfl dX11_told_26 ?_
    obtain ⟨g27, h⟩ := asn h
    refine G_iald hC 105 (by omega) e_mrefusedarr g27 dX11_told_27 ?_
    refine G_iconst hC (v := 1) (by decide) dX11_told_28 ?_
    refine G_iadd hC dX11_told_29 ?_
    obtain ⟨g30, h⟩ := asn h
    refine G_iast hC 105 (by omega) e_mrefusedarr g30 dX11_told_30 (fun en2 e_mrefusedarr fr => ?_)
    have e_mrefusedarr : en2 105 = .inl (cs 1, 3, .inl (upd mrefused ((-2 : Int32) - x1).toNatClampNeg ((mrefused ((-2 : Int32) - x1).toNatClampNeg) + (1 : Int32)))) := e_mrefusedarr
    have e_model := (fr 100 (by omega)).trans e_model
    have hfr : ∀ j, (j < 105 ∨ 106 ≤ j) → en2 j = en j := fun j o0 => (fr j (by omega)).trans (hfr j o0)
    refine G_iload_n hC 1 1 rfl rfl dX11_told_31 ?_
    have h := Option.some.inj h
    subst h
    exact Kr _ _ _ _ (nar_i _) ⟨rfl, e_mrefusedarr, hfr⟩ dX11_told_32
  unfold f_X11_told at h
  have hfr : ∀ j, (j < 105 ∨ 106 ≤ j) → en j = en j := fun _ _ => rfl
  refine G_iload_n hC 1 1 rfl rfl dX11_told_0 ?_
  refine G_bipush hC (v := (-2)) (by decide) dX11_told_1 ?_
  refine G_icmp_eq hC 18 dX11_told_3 (by decide) (fun c3 => ?_) (fun c3 => ?_)
  · have h := ifp c3 h
    refine G_lv [0, 1] rfl ?_
    exact hB18 _ _ _ e_model e_mrefusedarr hfr h
  have h := ifn c3 h
  refine G_iload_n hC 1 1 rfl rfl dX11_told_6 ?_
  refine G_bipush hC (v := (-3)) (by decide) dX11_told_7 ?_
  refine G_icmp_eq hC 18 dX11_told_9 (by decide) (fun c9 => ?_) (fun c9 => ?_)
  · have h := ifp c9 h
    refine G_lv [0, 1] rfl ?_
    exact hB18 _ _ _ e_model e_mrefusedarr hfr h
  have h := ifn c9 h
  refine G_iload_n hC 1 1 rfl rfl dX11_told_12 ?_
  refine G_bipush hC (v := (-4)) (by decide) dX11_told_13 ?_
  refine G_icmp_ne hC 31 dX11_told_15 (by decide) (fun c15 => ?_) (fun c15 => ?_)
  · have h := ifn c15 h
    refine G_iload_n hC 1 1 rfl rfl dX11_told_31 ?_
    have h := Option.some.inj h
    subst h
    exact Kr _ _ _ _ (nar_i _) ⟨rfl, e_mrefusedarr, hfr⟩ dX11_told_32
  have h := ifp c15 h
  refine G_lv [0, 1] rfl ?_
  exact hB18 _ _ _ e_model e_mrefusedarr hfr h
def f_X11_toldElse (mrefused : Nat → Int32)  : Option (Int32 × (Nat → Int32)) := if (0 : Int32) < 0 ∨ 3 ≤ (0 : Int32).toNatClampNeg then none else (if (0 : Int32) < 0 ∨ 3 ≤ (0 : Int32).toNatClampNeg then none else (some ((-10 : Int32), upd mrefused (0 : Int32).toNatClampNeg ((mrefused (0 : Int32).toNatClampNeg) + (1 : Int32)))))
set_option maxHeartbeats 4000000 in
set_option maxRecDepth 100000 in
theorem c_X11_toldElse {D : va_G} {cs : Nat → ClassId} {sa : Nat → Nat} {n : Nat} {ad : Nat → Nat} {A : Nat → Prop} (l : Launch) {en : Nat → va_E}  {mtexted : Int32} {mundo : Int32} {mabove : Int64} {mbelow : Int64} {mrefused : Nat → Int32} {mitems : Int32} {mat : Int32} {mfault : Int32} {mtakes : Int32} {mmisses : Int64} {mbest : Int64} {mh : Int64}   {q : Int32 × (Nat → Int32)} (hn : 110 ≤ n) (e_model : en 100 = .inr (8, [.ref (ad 101), .ref (ad 102), .ref (ad 103), .ref (ad 104), .int mtexted, .int mundo, .long mabove, .long mbelow, .ref (ad 105), .ref (ad 106), .ref (ad 107), .ref (ad 108), .int mitems, .int mat, .int mfault, .int mtakes, .long mmisses, .long mbest, .ref (ad 109), .long mh])) (e_mrefusedarr : en 105 = .inl (cs 1, 3, .inl (mrefused))) (h : f_X11_toldElse mrefused = some q) : Met l yX11_toldElse wsX11_toldElse { frames := 0, cells := 0, slots := 0, locals := 0 } (va_Pc [.ref (ad 100)] (Wd D cs sa n ad A en)) (va_Qi (fun r u => q.1 = r ∧ u 105 = .inl (cs 1, 3, .inl (q.2)) ∧ (∀ j, (j < 105 ∨ 106 ≤ j) → u j = en j)) (Wd D cs sa n ad A) A) 0 0 A := by
  refine G_startI cX11_toldElse 1 [(0, .ref (ad 100))] (by decide) rfl (Nat.le_of_ble_eq_true rfl) rfl ?_
  intro p e s m args below meth c Q hC hnm Kr
  have inX11 : ∀ w ∈ u_ws RX11 TX11 20, w ∈ wsX11_toldElse := by decide +kernel
  have m28 : Cond.fieldLink RX11 28 "TongueTipModel" "refused" "[I" ∈ wsX11_toldElse := by decide +kernel
  unfold f_X11_toldElse at h
  have hfr : ∀ j, (j < 105 ∨ 106 ≤ j) → en j = en j := fun _ _ => rfl
  refine G_aload_n hC 0 0 rfl rfl dX11_toldElse_0 ?_
  refine G_get hC inX11 100 (by omega) (v := .ref (ad 105)) e_model rfl 8 (by decide) m28 rfl rfl dX11_toldElse_1 ?_
  refine G_iconst hC (v := 0) (by decide) dX11_toldElse_4 ?_
  refine G_dup2_11 hC rfl rfl dX11_toldElse_5 ?_
  obtain ⟨g6, h⟩ := asn h
  refine G_iald hC 105 (by omega) e_mrefusedarr g6 dX11_toldElse_6 ?_
  refine G_iconst hC (v := 1) (by decide) dX11_toldElse_7 ?_
  refine G_iadd hC dX11_toldElse_8 ?_
  obtain ⟨g9, h⟩ := asn h
  refine G_iast hC 105 (by omega) e_mrefusedarr g9 dX11_toldElse_9 (fun en2 e_mrefusedarr fr => ?_)
  have e_mrefusedarr : en2 105 = .inl (cs 1, 3, .inl (upd mrefused (0 : Int32).toNatClampNeg ((mrefused (0 : Int32).toNatClampNeg) + (1 : Int32)))) := e_mrefusedarr
  have e_model := (fr 100 (by omega)).trans e_model
  have hfr : ∀ j, (j < 105 ∨ 106 ≤ j) → en2 j = en j := fun j o0 => (fr j (by omega)).trans (hfr j o0)
  refine G_bipush hC (v := (-10)) (by decide) dX11_toldElse_10 ?_
  have h := Option.some.inj h
  subst h
  exact Kr _ _ _ _ (nar_i _) ⟨rfl, e_mrefusedarr, hfr⟩ dX11_toldElse_12
def f_X11_isOne (mw : Nat → Int32) (x1 : Int32) : Option (Int32) := if (0 : Int32) < 0 ∨ 960 ≤ (0 : Int32).toNatClampNeg then none else (Option.bind (f_X11_in x1.toInt64 (0 : Int64) (((mw (0 : Int32).toNatClampNeg) - (1 : Int32)).toInt64)) (fun q12 => if q12 = 0 ∨ q12 = 1 then (some q12) else none))
set_option maxHeartbeats 4000000 in
set_option maxRecDepth 100000 in
theorem c_X11_isOne {D : va_G} {cs : Nat → ClassId} {sa : Nat → Nat} {n : Nat} {ad : Nat → Nat} {A : Nat → Prop} (l : Launch) {en : Nat → va_E}  {mw : Nat → Int32} {mtexted : Int32} {mundo : Int32} {mabove : Int64} {mbelow : Int64} {mitems : Int32} {mat : Int32} {mfault : Int32} {mtakes : Int32} {mmisses : Int64} {mbest : Int64} {mh : Int64} {x1 : Int32}  {q : Int32} (hn : 110 ≤ n) (e_model : en 100 = .inr (8, [.ref (ad 101), .ref (ad 102), .ref (ad 103), .ref (ad 104), .int mtexted, .int mundo, .long mabove, .long mbelow, .ref (ad 105), .ref (ad 106), .ref (ad 107), .ref (ad 108), .int mitems, .int mat, .int mfault, .int mtakes, .long mmisses, .long mbest, .ref (ad 109), .long mh])) (e_mwarr : en 101 = .inl (cs 1, 960, .inl (mw))) (h : f_X11_isOne mw x1 = some q) : Met l yX11_isOne wsX11_isOne { frames := 1, cells := 0, slots := 0, locals := 25 } (va_Pc [.ref (ad 100), .int x1] (Wd D cs sa n ad A en)) (va_Qi (fun r u => q = r ∧ en = u) (Wd D cs sa n ad A) A) 0 0 A := by
  refine G_startI cX11_isOne 2 [(0, .ref (ad 100)), (1, .int x1)] (by decide) rfl (Nat.le_of_ble_eq_true rfl) rfl ?_
  intro p e s m args below meth c Q hC hnm Kr
  have inX11 : ∀ w ∈ u_ws RX11 TX11 20, w ∈ wsX11_isOne := by decide +kernel
  have m7 : Cond.fieldLink RX11 7 "TongueTipModel" "w" "[I" ∈ wsX11_isOne := by decide +kernel
  unfold f_X11_isOne at h
  refine G_iload_n hC 1 1 rfl rfl dX11_isOne_0 ?_
  refine G_i2l hC dX11_isOne_1 ?_
  refine G_lconst hC (v := 0) (by decide) dX11_isOne_2 ?_
  refine G_aload_n hC 0 0 rfl rfl dX11_isOne_3 ?_
  refine G_get hC inX11 100 (by omega) (v := .ref (ad 101)) e_model rfl 0 (by decide) m7 rfl rfl dX11_isOne_4 ?_
  refine G_iconst hC (v := 0) (by decide) dX11_isOne_7 ?_
  obtain ⟨g8, h⟩ := asn h
  refine G_iald hC 101 (by omega) e_mwarr g8 dX11_isOne_8 ?_
  refine G_iconst hC (v := 1) (by decide) dX11_isOne_9 ?_
  refine G_isub hC dX11_isOne_10 ?_
  refine G_i2l hC dX11_isOne_11 ?_
  obtain ⟨q12, h12, h⟩ := bnd h
  refine G_cSi (st := []) hC _ (c_X11_in  l  h12) (va_cwS 3 hC.hts gX11_isOne_X11_in rfl rfl rfl (by decide +kernel) ⟨Nat.le_of_ble_eq_true rfl, Nat.le_of_ble_eq_true rfl⟩) rfl (Nat.le_of_ble_eq_true rfl) (Nat.zero_le _) (Nat.zero_le _) rfl dX11_isOne_12 (fun r12 enx hw => ?_)
  obtain ⟨rfl, rfl⟩ := hw
  obtain ⟨g15, h⟩ := asr h
  have h := Option.some.inj h
  subst h
  exact Kr _ _ _ _ (nar_b g15) ⟨rfl, rfl⟩ dX11_isOne_15
def f_X11_makeAnew_L98   : Nat → (Nat → Int32) → Int32 → Int32 → Option ((Nat → Int32))
  | 0, _, _, _ => none
  | fu + 1, mw, x1, x2 => if (5 : Int32) ≤ x2 then (some mw) else (if (x1 + (110 : Int32)) + x2 < 0 ∨ 960 ≤ ((x1 + (110 : Int32)) + x2).toNatClampNeg then none else (f_X11_makeAnew_L98 fu (upd mw ((x1 + (110 : Int32)) + x2).toNatClampNeg (-1 : Int32)) x1 (x2 + (1 : Int32))))
def f_X11_makeAnew_L2   : Nat → (Nat → Int32) → Int32 → Int32 → Option ((Nat → Int32))
  | 0, _, _, _ => none
  | fu + 1, mw, x1, x2 => if (120 : Int32) ≤ x2 then (if x1 + (103 : Int32) < 0 ∨ 960 ≤ (x1 + (103 : Int32)).toNatClampNeg then none else (if x1 + (105 : Int32) < 0 ∨ 960 ≤ (x1 + (105 : Int32)).toNatClampNeg then none else (if (x1 + (105 : Int32)) + (1 : Int32) < 0 ∨ 960 ≤ ((x1 + (105 : Int32)) + (1 : Int32)).toNatClampNeg then none else (if (x1 + (105 : Int32)) + (2 : Int32) < 0 ∨ 960 ≤ ((x1 + (105 : Int32)) + (2 : Int32)).toNatClampNeg then none else (if (x1 + (105 : Int32)) + (3 : Int32) < 0 ∨ 960 ≤ ((x1 + (105 : Int32)) + (3 : Int32)).toNatClampNeg then none else (if (x1 + (105 : Int32)) + (4 : Int32) < 0 ∨ 960 ≤ ((x1 + (105 : Int32)) + (4 : Int32)).toNatClampNeg then none else (f_X11_makeAnew_L98 FU (upd (upd (upd (upd (upd (upd mw (x1 + (103 : Int32)).toNatClampNeg (7 : Int32)) (x1 + (105 : Int32)).toNatClampNeg (3 : Int32)) ((x1 + (105 : Int32)) + (1 : Int32)).toNatClampNeg (6 : Int32)) ((x1 + (105 : Int32)) + (2 : Int32)).toNatClampNeg (8 : Int32)) ((x1 + (105 : Int32)) + (3 : Int32)).toNatClampNeg (9 : Int32)) ((x1 + (105 : Int32)) + (4 : Int32)).toNatClampNeg (10 : Int32)) x1 (0 : Int32)))))))) else (if x1 + x2 < 0 ∨ 960 ≤ (x1 + x2).toNatClampNeg then none else (f_X11_makeAnew_L2 fu (upd mw (x1 + x2).toNatClampNeg (0 : Int32)) x1 (x2 + (1 : Int32))))
def f_X11_makeAnew (mw : Nat → Int32) (x1 : Int32) : Option ((Nat → Int32)) := f_X11_makeAnew_L2 FU mw x1 (0 : Int32)
set_option maxHeartbeats 4000000 in
set_option maxRecDepth 100000 in
theorem c_X11_makeAnew {D : va_G} {cs : Nat → ClassId} {sa : Nat → Nat} {n : Nat} {ad : Nat → Nat} {A : Nat → Prop} (l : Launch) {en : Nat → va_E}  {mw : Nat → Int32} {mtexted : Int32} {mundo : Int32} {mabove : Int64} {mbelow : Int64} {mitems : Int32} {mat : Int32} {mfault : Int32} {mtakes : Int32} {mmisses : Int64} {mbest : Int64} {mh : Int64} {x1 : Int32}  {q : (Nat → Int32)} (hn : 110 ≤ n) (e_model : en 100 = .inr (8, [.ref (ad 101), .ref (ad 102), .ref (ad 103), .ref (ad 104), .int mtexted, .int mundo, .long mabove, .long mbelow, .ref (ad 105), .ref (ad 106), .ref (ad 107), .ref (ad 108), .int mitems, .int mat, .int mfault, .int mtakes, .long mmisses, .long mbest, .ref (ad 109), .long mh])) (e_mwarr : en 101 = .inl (cs 1, 960, .inl (mw))) (h : f_X11_makeAnew mw x1 = some q) : Met l yX11_makeAnew wsX11_makeAnew { frames := 0, cells := 0, slots := 0, locals := 0 } (va_Pc [.ref (ad 100), .int x1] (Wd D cs sa n ad A en)) (va_Qv (fun u => u 101 = .inl (cs 1, 960, .inl (q)) ∧ (∀ j, (j < 101 ∨ 102 ≤ j) → u j = en j)) (Wd D cs sa n ad A) A) 0 0 A := by
  refine G_startV cX11_makeAnew 3 [(0, .ref (ad 100)), (1, .int x1)] (by decide) rfl (Nat.le_of_ble_eq_true rfl) rfl ?_
  intro p e s m args below meth c Q hC hnm Kr
  have inX11 : ∀ w ∈ u_ws RX11 TX11 20, w ∈ wsX11_makeAnew := by decide +kernel
  have m7 : Cond.fieldLink RX11 7 "TongueTipModel" "w" "[I" ∈ wsX11_makeAnew := by decide +kernel
  have hL98 : ∀ (fu98 : Nat), ∀ (en1 : Nat → va_E) (mw : Nat → Int32) (x1 : Int32) (x2 : Int32), en1 100 = .inr (8, [.ref (ad 101), .ref (ad 102), .ref (ad 103), .ref (ad 104), .int mtexted, .int mundo, .long mabove, .long mbelow, .ref (ad 105), .ref (ad 106), .ref (ad 107), .ref (ad 108), .int mitems, .int mat, .int mfault, .int mtakes, .long mmisses, .long mbest, .ref (ad 109), .long mh]) → en1 101 = .inl (cs 1, 960, .inl (mw)) → (∀ j, (j < 101 ∨ 102 ≤ j) → en1 j = en j) → f_X11_makeAnew_L98 fu98 mw x1 x2 = some q → G p l e ({ frames := 0, cells := 0, slots := 0, locals := 0 } : Room) s m args below meth c D n ad A 3 0 0 Q en1 98 [(0, .ref (ad 100)), (1, .int x1), (2, .int x2)] [] := by
    intro fu98
    induction fu98 with
    | zero =>
      intro en1 mw x1 x2 e_model e_mwarr hfr h
      rw [f_X11_makeAnew_L98] at h
      cases h
    | succ fu98 ih98 =>
      intro en1 mw x1 x2 e_model e_mwarr hfr h
      rw [f_X11_makeAnew_L98] at h
      refine G_iload_n hC 2 2 rfl rfl dX11_makeAnew_98 ?_
      refine G_iconst hC (v := 5) (by decide) dX11_makeAnew_99 ?_
      refine G_icmp_ge hC 121 dX11_makeAnew_100 (by decide) (fun c100 => ?_) (fun c100 => ?_)
      · have h := ifp c100 h
        have h := Option.some.inj h
        subst h
        exact Kr _ _ _ ⟨e_mwarr, hfr⟩ dX11_makeAnew_121
      have h := ifn c100 h
      refine G_aload_n hC 0 0 rfl rfl dX11_makeAnew_103 ?_
      refine G_get hC inX11 100 (by omega) (v := .ref (ad 101)) e_model rfl 0 (by decide) m7 rfl rfl dX11_makeAnew_104 ?_
      refine G_iload_n hC 1 1 rfl rfl dX11_makeAnew_107 ?_
      refine G_bipush hC (v := 110) (by decide) dX11_makeAnew_108 ?_
      refine G_iadd hC dX11_makeAnew_110 ?_
      refine G_iload_n hC 2 2 rfl rfl dX11_makeAnew_111 ?_
      refine G_iadd hC dX11_makeAnew_112 ?_
      refine G_iconst hC (v := (-1)) (by decide) dX11_makeAnew_113 ?_
      obtain ⟨g114, h⟩ := asn h
      refine G_iast hC 101 (by omega) e_mwarr g114 dX11_makeAnew_114 (fun en2 e_mwarr fr => ?_)
      have e_mwarr : en2 101 = .inl (cs 1, 960, .inl (upd mw ((x1 + (110 : Int32)) + x2).toNatClampNeg (-1 : Int32))) := e_mwarr
      have e_model := (fr 100 (by omega)).trans e_model
      have hfr : ∀ j, (j < 101 ∨ 102 ≤ j) → en2 j = en j := fun j o0 => (fr j (by omega)).trans (hfr j o0)
      refine G_iinc hC 2 2 [(2, .int (x2 + (1 : Int32))), (0, .ref (ad 100)), (1, .int x1)] rfl rfl (by decide) rfl dX11_makeAnew_115 ?_
      refine G_goto hC 98 dX11_makeAnew_118 (by decide) ?_
      refine G_lv [1, 2, 0] rfl ?_
      exact ih98 _ _ _ _ e_model e_mwarr hfr h
  have hL2 : ∀ (fu2 : Nat), ∀ (en1 : Nat → va_E) (mw : Nat → Int32) (x1 : Int32) (x2 : Int32), en1 100 = .inr (8, [.ref (ad 101), .ref (ad 102), .ref (ad 103), .ref (ad 104), .int mtexted, .int mundo, .long mabove, .long mbelow, .ref (ad 105), .ref (ad 106), .ref (ad 107), .ref (ad 108), .int mitems, .int mat, .int mfault, .int mtakes, .long mmisses, .long mbest, .ref (ad 109), .long mh]) → en1 101 = .inl (cs 1, 960, .inl (mw)) → (∀ j, (j < 101 ∨ 102 ≤ j) → en1 j = en j) → f_X11_makeAnew_L2 fu2 mw x1 x2 = some q → G p l e ({ frames := 0, cells := 0, slots := 0, locals := 0 } : Room) s m args below meth c D n ad A 3 0 0 Q en1 2 [(0, .ref (ad 100)), (1, .int x1), (2, .int x2)] [] := by
    intro fu2
    induction fu2 with
    | zero =>
      intro en1 mw x1 x2 e_model e_mwarr hfr h
      rw [f_X11_makeAnew_L2] at h
      cases h
    | succ fu2 ih2 =>
      intro en1 mw x1 x2 e_model e_mwarr hfr h
      rw [f_X11_makeAnew_L2] at h
      refine G_iload_n hC 2 2 rfl rfl dX11_makeAnew_2 ?_
      refine G_bipush hC (v := 120) (by decide) dX11_makeAnew_3 ?_
      refine G_icmp_ge hC 23 dX11_makeAnew_5 (by decide) (fun c5 => ?_) (fun c5 => ?_)
      · have h := ifp c5 h
        refine G_aload_n hC 0 0 rfl rfl dX11_makeAnew_23 ?_
        refine G_get hC inX11 100 (by omega) (v := .ref (ad 101)) e_model rfl 0 (by decide) m7 rfl rfl dX11_makeAnew_24 ?_
        refine G_iload_n hC 1 1 rfl rfl dX11_makeAnew_27 ?_
        refine G_bipush hC (v := 103) (by decide) dX11_makeAnew_28 ?_
        refine G_iadd hC dX11_makeAnew_30 ?_
        refine G_bipush hC (v := 7) (by decide) dX11_makeAnew_31 ?_
        obtain ⟨g33, h⟩ := asn h
        refine G_iast hC 101 (by omega) e_mwarr g33 dX11_makeAnew_33 (fun en2 e_mwarr fr => ?_)
        have e_mwarr : en2 101 = .inl (cs 1, 960, .inl (upd mw (x1 + (103 : Int32)).toNatClampNeg (7 : Int32))) := e_mwarr
        have e_model := (fr 100 (by omega)).trans e_model
        have hfr : ∀ j, (j < 101 ∨ 102 ≤ j) → en2 j = en j := fun j o0 => (fr j (by omega)).trans (hfr j o0)
        refine G_aload_n hC 0 0 rfl rfl dX11_makeAnew_34 ?_
        refine G_get hC inX11 100 (by omega) (v := .ref (ad 101)) e_model rfl 0 (by decide) m7 rfl rfl dX11_makeAnew_35 ?_
        refine G_iload_n hC 1 1 rfl rfl dX11_makeAnew_38 ?_
        refine G_bipush hC (v := 105) (by decide) dX11_makeAnew_39 ?_
        refine G_iadd hC dX11_makeAnew_41 ?_
        refine G_iconst hC (v := 3) (by decide) dX11_makeAnew_42 ?_
        obtain ⟨g43, h⟩ := asn h
        refine G_iast hC 101 (by omega) e_mwarr g43 dX11_makeAnew_43 (fun en3 e_mwarr fr => ?_)
        have e_mwarr : en3 101 = .inl (cs 1, 960, .inl (upd (upd mw (x1 + (103 : Int32)).toNatClampNeg (7 : Int32)) (x1 + (105 : Int32)).toNatClampNeg (3 : Int32))) := e_mwarr
        have e_model := (fr 100 (by omega)).trans e_model
        have hfr : ∀ j, (j < 101 ∨ 102 ≤ j) → en3 j = en j := fun j o0 => (fr j (by omega)).trans (hfr j o0)
        refine G_aload_n hC 0 0 rfl rfl dX11_makeAnew_44 ?_
        refine G_get hC inX11 100 (by omega) (v := .ref (ad 101)) e_model rfl 0 (by decide) m7 rfl rfl dX11_makeAnew_45 ?_
        refine G_iload_n hC 1 1 rfl rfl dX11_makeAnew_48 ?_
        refine G_bipush hC (v := 105) (by decide) dX11_makeAnew_49 ?_
        refine G_iadd hC dX11_makeAnew_51 ?_
        refine G_iconst hC (v := 1) (by decide) dX11_makeAnew_52 ?_
        refine G_iadd hC dX11_makeAnew_53 ?_
        refine G_bipush hC (v := 6) (by decide) dX11_makeAnew_54 ?_
        obtain ⟨g56, h⟩ := asn h
        refine G_iast hC 101 (by omega) e_mwarr g56 dX11_makeAnew_56 (fun en4 e_mwarr fr => ?_)
        have e_mwarr : en4 101 = .inl (cs 1, 960, .inl (upd (upd (upd mw (x1 + (103 : Int32)).toNatClampNeg (7 : Int32)) (x1 + (105 : Int32)).toNatClampNeg (3 : Int32)) ((x1 + (105 : Int32)) + (1 : Int32)).toNatClampNeg (6 : Int32))) := e_mwarr
        have e_model := (fr 100 (by omega)).trans e_model
        have hfr : ∀ j, (j < 101 ∨ 102 ≤ j) → en4 j = en j := fun j o0 => (fr j (by omega)).trans (hfr j o0)
        refine G_aload_n hC 0 0 rfl rfl dX11_makeAnew_57 ?_
        refine G_get hC inX11 100 (by omega) (v := .ref (ad 101)) e_model rfl 0 (by decide) m7 rfl rfl dX11_makeAnew_58 ?_
        refine G_iload_n hC 1 1 rfl rfl dX11_makeAnew_61 ?_
        refine G_bipush hC (v := 105) (by decide) dX11_makeAnew_62 ?_
        refine G_iadd hC dX11_makeAnew_64 ?_
        refine G_iconst hC (v := 2) (by decide) dX11_makeAnew_65 ?_
        refine G_iadd hC dX11_makeAnew_66 ?_
        refine G_bipush hC (v := 8) (by decide) dX11_makeAnew_67 ?_
        obtain ⟨g69, h⟩ := asn h
        refine G_iast hC 101 (by omega) e_mwarr g69 dX11_makeAnew_69 (fun en5 e_mwarr fr => ?_)
        have e_mwarr : en5 101 = .inl (cs 1, 960, .inl (upd (upd (upd (upd mw (x1 + (103 : Int32)).toNatClampNeg (7 : Int32)) (x1 + (105 : Int32)).toNatClampNeg (3 : Int32)) ((x1 + (105 : Int32)) + (1 : Int32)).toNatClampNeg (6 : Int32)) ((x1 + (105 : Int32)) + (2 : Int32)).toNatClampNeg (8 : Int32))) := e_mwarr
        have e_model := (fr 100 (by omega)).trans e_model
        have hfr : ∀ j, (j < 101 ∨ 102 ≤ j) → en5 j = en j := fun j o0 => (fr j (by omega)).trans (hfr j o0)
        refine G_aload_n hC 0 0 rfl rfl dX11_makeAnew_70 ?_
        refine G_get hC inX11 100 (by omega) (v := .ref (ad 101)) e_model rfl 0 (by decide) m7 rfl rfl dX11_makeAnew_71 ?_
        refine G_iload_n hC 1 1 rfl rfl dX11_makeAnew_74 ?_
        refine G_bipush hC (v := 105) (by decide) dX11_makeAnew_75 ?_
        refine G_iadd hC dX11_makeAnew_77 ?_
        refine G_iconst hC (v := 3) (by decide) dX11_makeAnew_78 ?_
        refine G_iadd hC dX11_makeAnew_79 ?_
        refine G_bipush hC (v := 9) (by decide) dX11_makeAnew_80 ?_
        obtain ⟨g82, h⟩ := asn h
        refine G_iast hC 101 (by omega) e_mwarr g82 dX11_makeAnew_82 (fun en6 e_mwarr fr => ?_)
        have e_mwarr : en6 101 = .inl (cs 1, 960, .inl (upd (upd (upd (upd (upd mw (x1 + (103 : Int32)).toNatClampNeg (7 : Int32)) (x1 + (105 : Int32)).toNatClampNeg (3 : Int32)) ((x1 + (105 : Int32)) + (1 : Int32)).toNatClampNeg (6 : Int32)) ((x1 + (105 : Int32)) + (2 : Int32)).toNatClampNeg (8 : Int32)) ((x1 + (105 : Int32)) + (3 : Int32)).toNatClampNeg (9 : Int32))) := e_mwarr
        have e_model := (fr 100 (by omega)).trans e_model
        have hfr : ∀ j, (j < 101 ∨ 102 ≤ j) → en6 j = en j := fun j o0 => (fr j (by omega)).trans (hfr j o0)
        refine G_aload_n hC 0 0 rfl rfl dX11_makeAnew_83 ?_
        refine G_get hC inX11 100 (by omega) (v := .ref (ad 101)) e_model rfl 0 (by decide) m7 rfl rfl dX11_makeAnew_84 ?_
        refine G_iload_n hC 1 1 rfl rfl dX11_makeAnew_87 ?_
        refine G_bipush hC (v := 105) (by decide) dX11_makeAnew_88 ?_
        refine G_iadd hC dX11_makeAnew_90 ?_
        refine G_iconst hC (v := 4) (by decide) dX11_makeAnew_91 ?_
        refine G_iadd hC dX11_makeAnew_92 ?_
        refine G_bipush hC (v := 10) (by decide) dX11_makeAnew_93 ?_
        obtain ⟨g95, h⟩ := asn h
        refine G_iast hC 101 (by omega) e_mwarr g95 dX11_makeAnew_95 (fun en7 e_mwarr fr => ?_)
        have e_mwarr : en7 101 = .inl (cs 1, 960, .inl (upd (upd (upd (upd (upd (upd mw (x1 + (103 : Int32)).toNatClampNeg (7 : Int32)) (x1 + (105 : Int32)).toNatClampNeg (3 : Int32)) ((x1 + (105 : Int32)) + (1 : Int32)).toNatClampNeg (6 : Int32)) ((x1 + (105 : Int32)) + (2 : Int32)).toNatClampNeg (8 : Int32)) ((x1 + (105 : Int32)) + (3 : Int32)).toNatClampNeg (9 : Int32)) ((x1 + (105 : Int32)) + (4 : Int32)).toNatClampNeg (10 : Int32))) := e_mwarr
        have e_model := (fr 100 (by omega)).trans e_model
        have hfr : ∀ j, (j < 101 ∨ 102 ≤ j) → en7 j = en j := fun j o0 => (fr j (by omega)).trans (hfr j o0)
        refine G_iconst hC (v := 0) (by decide) dX11_makeAnew_96 ?_
        refine G_istore_n hC 2 [(2, .int (0 : Int32)), (0, .ref (ad 100)), (1, .int x1)] rfl (by decide) rfl dX11_makeAnew_97 ?_
        refine G_lv [1, 2, 0] rfl ?_
        exact hL98 FU _ _ _ _ e_model e_mwarr hfr h
      have h := ifn c5 h
      refine G_aload_n hC 0 0 rfl rfl dX11_makeAnew_8 ?_
      refine G_get hC inX11 100 (by omega) (v := .ref (ad 101)) e_model rfl 0 (by decide) m7 rfl rfl dX11_makeAnew_9 ?_
      refine G_iload_n hC 1 1 rfl rfl dX11_makeAnew_12 ?_
      refine G_iload_n hC 2 2 rfl rfl dX11_makeAnew_13 ?_
      refine G_iadd hC dX11_makeAnew_14 ?_
      refine G_iconst hC (v := 0) (by decide) dX11_makeAnew_15 ?_
      obtain ⟨g16, h⟩ := asn h
      refine G_iast hC 101 (by omega) e_mwarr g16 dX11_makeAnew_16 (fun en8 e_mwarr fr => ?_)
      have e_mwarr : en8 101 = .inl (cs 1, 960, .inl (upd mw (x1 + x2).toNatClampNeg (0 : Int32))) := e_mwarr
      have e_model := (fr 100 (by omega)).trans e_model
      have hfr : ∀ j, (j < 101 ∨ 102 ≤ j) → en8 j = en j := fun j o0 => (fr j (by omega)).trans (hfr j o0)
      refine G_iinc hC 2 2 [(2, .int (x2 + (1 : Int32))), (0, .ref (ad 100)), (1, .int x1)] rfl rfl (by decide) rfl dX11_makeAnew_17 ?_
      refine G_goto hC 2 dX11_makeAnew_20 (by decide) ?_
      refine G_lv [1, 2, 0] rfl ?_
      exact ih2 _ _ _ _ e_model e_mwarr hfr h
  unfold f_X11_makeAnew at h
  have hfr : ∀ j, (j < 101 ∨ 102 ≤ j) → en j = en j := fun _ _ => rfl
  refine G_iconst hC (v := 0) (by decide) dX11_makeAnew_0 ?_
  refine G_istore_n hC 2 [(2, .int (0 : Int32)), (0, .ref (ad 100)), (1, .int x1)] rfl (by decide) rfl dX11_makeAnew_1 ?_
  refine G_lv [1, 2, 0] rfl ?_
  exact hL2 FU _ _ _ _ e_model e_mwarr hfr h
def f_X11_copy_L32   : Nat → (Nat → Int32) → (Nat → Int64) → Int32 → Int32 → Int32 → Option ((Nat → Int32) × (Nat → Int64))
  | 0, _, _, _, _, _ => none
  | fu + 1, mw, mnames, x1, x2, x3 => if (12 : Int32) ≤ x3 then (some (mw, mnames)) else (if (x1 / (10 : Int32)) + x3 < 0 ∨ 96 ≤ ((x1 / (10 : Int32)) + x3).toNatClampNeg then none else (if (x2 / (10 : Int32)) + x3 < 0 ∨ 96 ≤ ((x2 / (10 : Int32)) + x3).toNatClampNeg then none else (f_X11_copy_L32 fu mw (vp_updL mnames ((x2 / (10 : Int32)) + x3).toNatClampNeg (mnames ((x1 / (10 : Int32)) + x3).toNatClampNeg)) x1 x2 (x3 + (1 : Int32)))))
def f_X11_copy_L2   : Nat → (Nat → Int32) → (Nat → Int64) → Int32 → Int32 → Int32 → Option ((Nat → Int32) × (Nat → Int64))
  | 0, _, _, _, _, _ => none
  | fu + 1, mw, mnames, x1, x2, x3 => if (120 : Int32) ≤ x3 then (f_X11_copy_L32 FU mw mnames x1 x2 (0 : Int32)) else (if x1 + x3 < 0 ∨ 960 ≤ (x1 + x3).toNatClampNeg then none else (if x2 + x3 < 0 ∨ 960 ≤ (x2 + x3).toNatClampNeg then none else (f_X11_copy_L2 fu (upd mw (x2 + x3).toNatClampNeg (mw (x1 + x3).toNatClampNeg)) mnames x1 x2 (x3 + (1 : Int32)))))
def f_X11_copy (mw : Nat → Int32) (mnames : Nat → Int64) (x1 : Int32) (x2 : Int32) : Option ((Nat → Int32) × (Nat → Int64)) := f_X11_copy_L2 FU mw mnames x1 x2 (0 : Int32)
set_option maxHeartbeats 4000000 in
set_option maxRecDepth 100000 in
theorem c_X11_copy {D : va_G} {cs : Nat → ClassId} {sa : Nat → Nat} {n : Nat} {ad : Nat → Nat} {A : Nat → Prop} (l : Launch) {en : Nat → va_E}  {mw : Nat → Int32} {mnames : Nat → Int64} {mtexted : Int32} {mundo : Int32} {mabove : Int64} {mbelow : Int64} {mitems : Int32} {mat : Int32} {mfault : Int32} {mtakes : Int32} {mmisses : Int64} {mbest : Int64} {mh : Int64} {x1 : Int32} {x2 : Int32}  {q : (Nat → Int32) × (Nat → Int64)} (hn : 110 ≤ n) (e_model : en 100 = .inr (8, [.ref (ad 101), .ref (ad 102), .ref (ad 103), .ref (ad 104), .int mtexted, .int mundo, .long mabove, .long mbelow, .ref (ad 105), .ref (ad 106), .ref (ad 107), .ref (ad 108), .int mitems, .int mat, .int mfault, .int mtakes, .long mmisses, .long mbest, .ref (ad 109), .long mh])) (e_mwarr : en 101 = .inl (cs 1, 960, .inl (mw))) (e_mnamesarr : en 102 = .inl (cs 2, 96, .inr (.inl (mnames)))) (h : f_X11_copy mw mnames x1 x2 = some q) : Met l yX11_copy wsX11_copy { frames := 0, cells := 0, slots := 0, locals := 0 } (va_Pc [.ref (ad 100), .int x1, .int x2] (Wd D cs sa n ad A en)) (va_Qv (fun u => u 101 = .inl (cs 1, 960, .inl (q.1)) ∧ u 102 = .inl (cs 2, 96, .inr (.inl (q.2))) ∧ (∀ j, (j < 101 ∨ 102 ≤ j) → (j < 102 ∨ 103 ≤ j) → u j = en j)) (Wd D cs sa n ad A) A) 0 0 A := by
  refine G_startV cX11_copy 4 [(0, .ref (ad 100)), (1, .int x1), (2, .int x2)] (by decide) rfl (Nat.le_of_ble_eq_true rfl) rfl ?_
  intro p e s m args below meth c Q hC hnm Kr
  have inX11 : ∀ w ∈ u_ws RX11 TX11 20, w ∈ wsX11_copy := by decide +kernel
  have m13 : Cond.fieldLink RX11 13 "TongueTipModel" "names" "[J" ∈ wsX11_copy := by decide +kernel
  have m7 : Cond.fieldLink RX11 7 "TongueTipModel" "w" "[I" ∈ wsX11_copy := by decide +kernel
  have hL32 : ∀ (fu32 : Nat), ∀ (en1 : Nat → va_E) (mw : Nat → Int32) (mnames : Nat → Int64) (x1 : Int32) (x2 : Int32) (x3 : Int32), en1 100 = .inr (8, [.ref (ad 101), .ref (ad 102), .ref (ad 103), .ref (ad 104), .int mtexted, .int mundo, .long mabove, .long mbelow, .ref (ad 105), .ref (ad 106), .ref (ad 107), .ref (ad 108), .int mitems, .int mat, .int mfault, .int mtakes, .long mmisses, .long mbest, .ref (ad 109), .long mh]) → en1 101 = .inl (cs 1, 960, .inl (mw)) → en1 102 = .inl (cs 2, 96, .inr (.inl (mnames))) → (∀ j, (j < 101 ∨ 102 ≤ j) → (j < 102 ∨ 103 ≤ j) → en1 j = en j) → f_X11_copy_L32 fu32 mw mnames x1 x2 x3 = some q → G p l e ({ frames := 0, cells := 0, slots := 0, locals := 0 } : Room) s m args below meth c D n ad A 4 0 0 Q en1 32 [(0, .ref (ad 100)), (1, .int x1), (2, .int x2), (3, .int x3)] [] := by
    intro fu32
    induction fu32 with
    | zero =>
      intro en1 mw mnames x1 x2 x3 e_model e_mwarr e_mnamesarr hfr h
      rw [f_X11_copy_L32] at h
      cases h
    | succ fu32 ih32 =>
      intro en1 mw mnames x1 x2 x3 e_model e_mwarr e_mnamesarr hfr h
      rw [f_X11_copy_L32] at h
      refine G_iload_n hC 3 3 rfl rfl dX11_copy_32 ?_
      refine G_bipush hC (v := 12) (by decide) dX11_copy_33 ?_
      refine G_icmp_ge hC 66 dX11_copy_35 (by decide) (fun c35 => ?_) (fun c35 => ?_)
      · have h := ifp c35 h
        have h := Option.some.inj h
        subst h
        exact Kr _ _ _ ⟨e_mwarr, e_mnamesarr, hfr⟩ dX11_copy_66
      have h := ifn c35 h
      refine G_aload_n hC 0 0 rfl rfl dX11_copy_38 ?_
      refine G_get hC inX11 100 (by omega) (v := .ref (ad 102)) e_model rfl 1 (by decide) m13 rfl rfl dX11_copy_39 ?_
      refine G_iload_n hC 2 2 rfl rfl dX11_copy_42 ?_
      refine G_bipush hC (v := 10) (by decide) dX11_copy_43 ?_
      refine G_idiv hC (by decide) dX11_copy_45 ?_
      refine G_iload_n hC 3 3 rfl rfl dX11_copy_46 ?_
      refine G_iadd hC dX11_copy_47 ?_
      refine G_aload_n hC 0 0 rfl rfl dX11_copy_48 ?_
      refine G_get hC inX11 100 (by omega) (v := .ref (ad 102)) e_model rfl 1 (by decide) m13 rfl rfl dX11_copy_49 ?_
      refine G_iload_n hC 1 1 rfl rfl dX11_copy_52 ?_
      refine G_bipush hC (v := 10) (by decide) dX11_copy_53 ?_
      refine G_idiv hC (by decide) dX11_copy_55 ?_
      refine G_iload_n hC 3 3 rfl rfl dX11_copy_56 ?_
      refine G_iadd hC dX11_copy_57 ?_
      obtain ⟨g58, h⟩ := asn h
      refine G_lald hC 102 (by omega) e_mnamesarr g58 dX11_copy_58 ?_
      obtain ⟨g59, h⟩ := asn h
      refine G_last hC 102 (by omega) e_mnamesarr g59 dX11_copy_59 (fun en2 e_mnamesarr fr => ?_)
      have e_mnamesarr : en2 102 = .inl (cs 2, 96, .inr (.inl (vp_updL mnames ((x2 / (10 : Int32)) + x3).toNatClampNeg (mnames ((x1 / (10 : Int32)) + x3).toNatClampNeg)))) := e_mnamesarr
      have e_model := (fr 100 (by omega)).trans e_model
      have e_mwarr := (fr 101 (by omega)).trans e_mwarr
      have hfr : ∀ j, (j < 101 ∨ 102 ≤ j) → (j < 102 ∨ 103 ≤ j) → en2 j = en j := fun j o0 o1 => (fr j (by omega)).trans (hfr j o0 o1)
      refine G_iinc hC 3 3 [(3, .int (x3 + (1 : Int32))), (0, .ref (ad 100)), (1, .int x1), (2, .int x2)] rfl rfl (by decide) rfl dX11_copy_60 ?_
      refine G_goto hC 32 dX11_copy_63 (by decide) ?_
      refine G_lv [1, 2, 3, 0] rfl ?_
      exact ih32 _ _ _ _ _ _ e_model e_mwarr e_mnamesarr hfr h
  have hL2 : ∀ (fu2 : Nat), ∀ (en1 : Nat → va_E) (mw : Nat → Int32) (mnames : Nat → Int64) (x1 : Int32) (x2 : Int32) (x3 : Int32), en1 100 = .inr (8, [.ref (ad 101), .ref (ad 102), .ref (ad 103), .ref (ad 104), .int mtexted, .int mundo, .long mabove, .long mbelow, .ref (ad 105), .ref (ad 106), .ref (ad 107), .ref (ad 108), .int mitems, .int mat, .int mfault, .int mtakes, .long mmisses, .long mbest, .ref (ad 109), .long mh]) → en1 101 = .inl (cs 1, 960, .inl (mw)) → en1 102 = .inl (cs 2, 96, .inr (.inl (mnames))) → (∀ j, (j < 101 ∨ 102 ≤ j) → (j < 102 ∨ 103 ≤ j) → en1 j = en j) → f_X11_copy_L2 fu2 mw mnames x1 x2 x3 = some q → G p l e ({ frames := 0, cells := 0, slots := 0, locals := 0 } : Room) s m args below meth c D n ad A 4 0 0 Q en1 2 [(0, .ref (ad 100)), (1, .int x1), (2, .int x2), (3, .int x3)] [] := by
    intro fu2
    induction fu2 with
    | zero =>
      intro en1 mw mnames x1 x2 x3 e_model e_mwarr e_mnamesarr hfr h
      rw [f_X11_copy_L2] at h
      cases h
    | succ fu2 ih2 =>
      intro en1 mw mnames x1 x2 x3 e_model e_mwarr e_mnamesarr hfr h
      rw [f_X11_copy_L2] at h
      refine G_iload_n hC 3 3 rfl rfl dX11_copy_2 ?_
      refine G_bipush hC (v := 120) (by decide) dX11_copy_3 ?_
      refine G_icmp_ge hC 30 dX11_copy_5 (by decide) (fun c5 => ?_) (fun c5 => ?_)
      · have h := ifp c5 h
        refine G_iconst hC (v := 0) (by decide) dX11_copy_30 ?_
        refine G_istore_n hC 3 [(3, .int (0 : Int32)), (0, .ref (ad 100)), (1, .int x1), (2, .int x2)] rfl (by decide) rfl dX11_copy_31 ?_
        refine G_lv [1, 2, 3, 0] rfl ?_
        exact hL32 FU _ _ _ _ _ _ e_model e_mwarr e_mnamesarr hfr h
      have h := ifn c5 h
      refine G_aload_n hC 0 0 rfl rfl dX11_copy_8 ?_
      refine G_get hC inX11 100 (by omega) (v := .ref (ad 101)) e_model rfl 0 (by decide) m7 rfl rfl dX11_copy_9 ?_
      refine G_iload_n hC 2 2 rfl rfl dX11_copy_12 ?_
      refine G_iload_n hC 3 3 rfl rfl dX11_copy_13 ?_
      refine G_iadd hC dX11_copy_14 ?_
      refine G_aload_n hC 0 0 rfl rfl dX11_copy_15 ?_
      refine G_get hC inX11 100 (by omega) (v := .ref (ad 101)) e_model rfl 0 (by decide) m7 rfl rfl dX11_copy_16 ?_
      refine G_iload_n hC 1 1 rfl rfl dX11_copy_19 ?_
      refine G_iload_n hC 3 3 rfl rfl dX11_copy_20 ?_
      refine G_iadd hC dX11_copy_21 ?_
      obtain ⟨g22, h⟩ := asn h
      refine G_iald hC 101 (by omega) e_mwarr g22 dX11_copy_22 ?_
      obtain ⟨g23, h⟩ := asn h
      refine G_iast hC 101 (by omega) e_mwarr g23 dX11_copy_23 (fun en2 e_mwarr fr => ?_)
      have e_mwarr : en2 101 = .inl (cs 1, 960, .inl (upd mw (x2 + x3).toNatClampNeg (mw (x1 + x3).toNatClampNeg))) := e_mwarr
      have e_model := (fr 100 (by omega)).trans e_model
      have e_mnamesarr := (fr 102 (by omega)).trans e_mnamesarr
      have hfr : ∀ j, (j < 101 ∨ 102 ≤ j) → (j < 102 ∨ 103 ≤ j) → en2 j = en j := fun j o0 o1 => (fr j (by omega)).trans (hfr j o0 o1)
      refine G_iinc hC 3 3 [(3, .int (x3 + (1 : Int32))), (0, .ref (ad 100)), (1, .int x1), (2, .int x2)] rfl rfl (by decide) rfl dX11_copy_24 ?_
      refine G_goto hC 2 dX11_copy_27 (by decide) ?_
      refine G_lv [1, 2, 3, 0] rfl ?_
      exact ih2 _ _ _ _ _ _ e_model e_mwarr e_mnamesarr hfr h
  unfold f_X11_copy at h
  have hfr : ∀ j, (j < 101 ∨ 102 ≤ j) → (j < 102 ∨ 103 ≤ j) → en j = en j := fun _ _ _ => rfl
  refine G_iconst hC (v := 0) (by decide) dX11_copy_0 ?_
  refine G_istore_n hC 3 [(3, .int (0 : Int32)), (0, .ref (ad 100)), (1, .int x1), (2, .int x2)] rfl (by decide) rfl dX11_copy_1 ?_
  refine G_lv [1, 2, 3, 0] rfl ?_
  exact hL2 FU _ _ _ _ _ _ e_model e_mwarr e_mnamesarr hfr h
def f_X11_addOne (mw : Nat → Int32) (mnames : Nat → Int64) (x1 : Int32) (x2 : Int64) (x4 : Int32) (x5 : Int32) (x6 : Int32) (x7 : Int32) (x8 : Int32) : Option (Int32 × (Nat → Int32) × (Nat → Int64)) := Option.bind (f_X11_isName x2) (fun q1 => if q1 = 0 then (some ((-2 : Int32), mw, mnames)) else (Option.bind (f_X11_in x4.toInt64 (1 : Int64) (5 : Int64)) (fun q14 => if q14 = 0 then (some ((-2 : Int32), mw, mnames)) else (Option.bind (f_X11_in x5.toInt64 (0 : Int64) (5 : Int64)) (fun q27 => if q27 = 0 then (some ((-2 : Int32), mw, mnames)) else (Option.bind (f_X11_in x6.toInt64 (0 : Int64) (5 : Int64)) (fun q40 => if q40 = 0 then (some ((-2 : Int32), mw, mnames)) else (Option.bind (f_X11_in x7.toInt64 (0 : Int64) (20 : Int64)) (fun q53 => if q53 = 0 then (some ((-2 : Int32), mw, mnames)) else (Option.bind (f_X11_in x8.toInt64 (1 : Int64) (9 : Int64)) (fun q66 => if q66 = 0 then (some ((-2 : Int32), mw, mnames)) else (if x1 + (0 : Int32) < 0 ∨ 960 ≤ (x1 + (0 : Int32)).toNatClampNeg then none else (if mw (x1 + (0 : Int32)).toNatClampNeg = (12 : Int32) then (some ((-4 : Int32), mw, mnames)) else (if (x1 / (10 : Int32)) + (mw (x1 + (0 : Int32)).toNatClampNeg) < 0 ∨ 96 ≤ ((x1 / (10 : Int32)) + (mw (x1 + (0 : Int32)).toNatClampNeg)).toNatClampNeg then none else (if (x1 + (1 : Int32)) + (mw (x1 + (0 : Int32)).toNatClampNeg) < 0 ∨ 960 ≤ ((x1 + (1 : Int32)) + (mw (x1 + (0 : Int32)).toNatClampNeg)).toNatClampNeg then none else (if (x1 + (13 : Int32)) + (mw (x1 + (0 : Int32)).toNatClampNeg) < 0 ∨ 960 ≤ ((x1 + (13 : Int32)) + (mw (x1 + (0 : Int32)).toNatClampNeg)).toNatClampNeg then none else (if (x1 + (25 : Int32)) + (mw (x1 + (0 : Int32)).toNatClampNeg) < 0 ∨ 960 ≤ ((x1 + (25 : Int32)) + (mw (x1 + (0 : Int32)).toNatClampNeg)).toNatClampNeg then none else (if (x1 + (37 : Int32)) + (mw (x1 + (0 : Int32)).toNatClampNeg) < 0 ∨ 960 ≤ ((x1 + (37 : Int32)) + (mw (x1 + (0 : Int32)).toNatClampNeg)).toNatClampNeg then none else (if (x1 + (49 : Int32)) + (mw (x1 + (0 : Int32)).toNatClampNeg) < 0 ∨ 960 ≤ ((x1 + (49 : Int32)) + (mw (x1 + (0 : Int32)).toNatClampNeg)).toNatClampNeg then none else (if x1 + (115 : Int32) < 0 ∨ 960 ≤ (x1 + (115 : Int32)).toNatClampNeg then none else (if (x1 + (61 : Int32)) + (mw (x1 + (0 : Int32)).toNatClampNeg) < 0 ∨ 960 ≤ ((x1 + (61 : Int32)) + (mw (x1 + (0 : Int32)).toNatClampNeg)).toNatClampNeg then none else (if x1 + (0 : Int32) < 0 ∨ 960 ≤ (x1 + (0 : Int32)).toNatClampNeg then none else (if x1 + (0 : Int32) < 0 ∨ 960 ≤ (x1 + (0 : Int32)).toNatClampNeg then none else (some (mw (x1 + (0 : Int32)).toNatClampNeg, upd (upd (upd (upd (upd (upd (upd mw ((x1 + (1 : Int32)) + (mw (x1 + (0 : Int32)).toNatClampNeg)).toNatClampNeg x4) ((x1 + (13 : Int32)) + (mw (x1 + (0 : Int32)).toNatClampNeg)).toNatClampNeg x5) ((x1 + (25 : Int32)) + (mw (x1 + (0 : Int32)).toNatClampNeg)).toNatClampNeg x6) ((x1 + (37 : Int32)) + (mw (x1 + (0 : Int32)).toNatClampNeg)).toNatClampNeg x7) ((x1 + (49 : Int32)) + (mw (x1 + (0 : Int32)).toNatClampNeg)).toNatClampNeg x8) ((x1 + (61 : Int32)) + (mw (x1 + (0 : Int32)).toNatClampNeg)).toNatClampNeg ((upd (upd (upd (upd (upd mw ((x1 + (1 : Int32)) + (mw (x1 + (0 : Int32)).toNatClampNeg)).toNatClampNeg x4) ((x1 + (13 : Int32)) + (mw (x1 + (0 : Int32)).toNatClampNeg)).toNatClampNeg x5) ((x1 + (25 : Int32)) + (mw (x1 + (0 : Int32)).toNatClampNeg)).toNatClampNeg x6) ((x1 + (37 : Int32)) + (mw (x1 + (0 : Int32)).toNatClampNeg)).toNatClampNeg x7) ((x1 + (49 : Int32)) + (mw (x1 + (0 : Int32)).toNatClampNeg)).toNatClampNeg x8) (x1 + (115 : Int32)).toNatClampNeg)) (x1 + (0 : Int32)).toNatClampNeg (((upd (upd (upd (upd (upd (upd mw ((x1 + (1 : Int32)) + (mw (x1 + (0 : Int32)).toNatClampNeg)).toNatClampNeg x4) ((x1 + (13 : Int32)) + (mw (x1 + (0 : Int32)).toNatClampNeg)).toNatClampNeg x5) ((x1 + (25 : Int32)) + (mw (x1 + (0 : Int32)).toNatClampNeg)).toNatClampNeg x6) ((x1 + (37 : Int32)) + (mw (x1 + (0 : Int32)).toNatClampNeg)).toNatClampNeg x7) ((x1 + (49 : Int32)) + (mw (x1 + (0 : Int32)).toNatClampNeg)).toNatClampNeg x8) ((x1 + (61 : Int32)) + (mw (x1 + (0 : Int32)).toNatClampNeg)).toNatClampNeg ((upd (upd (upd (upd (upd mw ((x1 + (1 : Int32)) + (mw (x1 + (0 : Int32)).toNatClampNeg)).toNatClampNeg x4) ((x1 + (13 : Int32)) + (mw (x1 + (0 : Int32)).toNatClampNeg)).toNatClampNeg x5) ((x1 + (25 : Int32)) + (mw (x1 + (0 : Int32)).toNatClampNeg)).toNatClampNeg x6) ((x1 + (37 : Int32)) + (mw (x1 + (0 : Int32)).toNatClampNeg)).toNatClampNeg x7) ((x1 + (49 : Int32)) + (mw (x1 + (0 : Int32)).toNatClampNeg)).toNatClampNeg x8) (x1 + (115 : Int32)).toNatClampNeg)) (x1 + (0 : Int32)).toNatClampNeg) + (1 : Int32)), vp_updL mnames ((x1 / (10 : Int32)) + (mw (x1 + (0 : Int32)).toNatClampNeg)).toNatClampNeg x2)))))))))))))))))))))))))
set_option maxHeartbeats 4000000 in
set_option maxRecDepth 100000 in
theorem c_X11_addOne {D : va_G} {cs : Nat → ClassId} {sa : Nat → Nat} {n : Nat} {ad : Nat → Nat} {A : Nat → Prop} (l : Launch) {en : Nat → va_E}  {mw : Nat → Int32} {mnames : Nat → Int64} {mtexted : Int32} {mundo : Int32} {mabove : Int64} {mbelow : Int64} {mitems : Int32} {mat : Int32} {mfault : Int32} {mtakes : Int32} {mmisses : Int64} {mbest : Int64} {mh : Int64} {x1 : Int32} {x2 : Int64} {x4 : Int32} {x5 : Int32} {x6 : Int32} {x7 : Int32} {x8 : Int32}  {q : Int32 × (Nat → Int32) × (Nat → Int64)} (hn : 110 ≤ n) (e_model : en 100 = .inr (8, [.ref (ad 101), .ref (ad 102), .ref (ad 103), .ref (ad 104), .int mtexted, .int mundo, .long mabove, .long mbelow, .ref (ad 105), .ref (ad 106), .ref (ad 107), .ref (ad 108), .int mitems, .int mat, .int mfault, .int mtakes, .long mmisses, .long mbest, .ref (ad 109), .long mh])) (e_mwarr : en 101 = .inl (cs 1, 960, .inl (mw))) (e_mnamesarr : en 102 = .inl (cs 2, 96, .inr (.inl (mnames)))) (h : f_X11_addOne mw mnames x1 x2 x4 x5 x6 x7 x8 = some q) : Met l yX11_addOne wsX11_addOne { frames := 2, cells := 0, slots := 0, locals := 49 } (va_Pc [.ref (ad 100), .int x1, .long x2, .int x4, .int x5, .int x6, .int x7, .int x8] (Wd D cs sa n ad A en)) (va_Qi (fun r u => q.1 = r ∧ u 101 = .inl (cs 1, 960, .inl (q.2.1)) ∧ u 102 = .inl (cs 2, 96, .inr (.inl (q.2.2))) ∧ (∀ j, (j < 101 ∨ 102 ≤ j) → (j < 102 ∨ 103 ≤ j) → u j = en j)) (Wd D cs sa n ad A) A) 0 0 A := by
  refine G_startI cX11_addOne 10 [(0, .ref (ad 100)), (1, .int x1), (2, .long x2), (4, .int x4), (5, .int x5), (6, .int x6), (7, .int x7), (8, .int x8)] (by decide) rfl (Nat.le_of_ble_eq_true rfl) rfl ?_
  intro p e s m args below meth c Q hC hnm Kr
  have inX11 : ∀ w ∈ u_ws RX11 TX11 20, w ∈ wsX11_addOne := by decide +kernel
  have k63 : Cond.constantLong RX11 63 (5) ∈ wsX11_addOne := by decide +kernel
  have k65 : Cond.constantLong RX11 65 (20) ∈ wsX11_addOne := by decide +kernel
  have k67 : Cond.constantLong RX11 67 (9) ∈ wsX11_addOne := by decide +kernel
  have m13 : Cond.fieldLink RX11 13 "TongueTipModel" "names" "[J" ∈ wsX11_addOne := by decide +kernel
  have m7 : Cond.fieldLink RX11 7 "TongueTipModel" "w" "[I" ∈ wsX11_addOne := by decide +kernel
  unfold f_X11_addOne at h
  have hfr : ∀ j, (j < 101 ∨ 102 ≤ j) → (j < 102 ∨ 103 ≤ j) → en j = en j := fun _ _ _ => rfl
  refine G_lload_n hC 2 2 rfl rfl dX11_addOne_0 ?_
  obtain ⟨q1, h1, h⟩ := bnd h
  refine G_cSi (st := []) hC _ (c_X11_isName  l  h1) (va_cwS 1 hC.hts gX11_addOne_X11_isName rfl rfl rfl (by decide +kernel) ⟨Nat.le_of_ble_eq_true rfl, Nat.le_of_ble_eq_true rfl⟩) rfl (Nat.le_of_ble_eq_true rfl) (Nat.zero_le _) (Nat.zero_le _) rfl dX11_addOne_1 (fun r1 enx hw => ?_)
  obtain ⟨rfl, rfl⟩ := hw
  refine G_if_eq hC 72 dX11_addOne_4 (by decide) (fun c4 => ?_) (fun c4 => ?_)
  · have h := ifp c4 h
    refine G_bipush hC (v := (-2)) (by decide) dX11_addOne_72 ?_
    have h := Option.some.inj h
    subst h
    exact Kr _ _ _ _ (nar_i _) ⟨rfl, e_mwarr, e_mnamesarr, hfr⟩ dX11_addOne_74
  have h := ifn c4 h
  refine G_iload hC 4 3 rfl dX11_addOne_7 ?_
  refine G_i2l hC dX11_addOne_9 ?_
  refine G_lconst hC (v := 1) (by decide) dX11_addOne_10 ?_
  refine G_ldc2 hC (v := (5)) k63 dX11_addOne_11 ?_
  obtain ⟨q14, h14, h⟩ := bnd h
  refine G_cSi (st := []) hC _ (c_X11_in  l  h14) (va_cwS 3 hC.hts gX11_addOne_X11_in rfl rfl rfl (by decide +kernel) ⟨Nat.le_of_ble_eq_true rfl, Nat.le_of_ble_eq_true rfl⟩) rfl (Nat.le_of_ble_eq_true rfl) (Nat.zero_le _) (Nat.zero_le _) rfl dX11_addOne_14 (fun r14 enx hw => ?_)
  obtain ⟨rfl, rfl⟩ := hw
  refine G_if_eq hC 72 dX11_addOne_17 (by decide) (fun c17 => ?_) (fun c17 => ?_)
  · have h := ifp c17 h
    refine G_bipush hC (v := (-2)) (by decide) dX11_addOne_72 ?_
    have h := Option.some.inj h
    subst h
    exact Kr _ _ _ _ (nar_i _) ⟨rfl, e_mwarr, e_mnamesarr, hfr⟩ dX11_addOne_74
  have h := ifn c17 h
  refine G_iload hC 5 4 rfl dX11_addOne_20 ?_
  refine G_i2l hC dX11_addOne_22 ?_
  refine G_lconst hC (v := 0) (by decide) dX11_addOne_23 ?_
  refine G_ldc2 hC (v := (5)) k63 dX11_addOne_24 ?_
  obtain ⟨q27, h27, h⟩ := bnd h
  refine G_cSi (st := []) hC _ (c_X11_in  l  h27) (va_cwS 3 hC.hts gX11_addOne_X11_in rfl rfl rfl (by decide +kernel) ⟨Nat.le_of_ble_eq_true rfl, Nat.le_of_ble_eq_true rfl⟩) rfl (Nat.le_of_ble_eq_true rfl) (Nat.zero_le _) (Nat.zero_le _) rfl dX11_addOne_27 (fun r27 enx hw => ?_)
  obtain ⟨rfl, rfl⟩ := hw
  refine G_if_eq hC 72 dX11_addOne_30 (by decide) (fun c30 => ?_) (fun c30 => ?_)
  · have h := ifp c30 h
    refine G_bipush hC (v := (-2)) (by decide) dX11_addOne_72 ?_
    have h := Option.some.inj h
    subst h
    exact Kr _ _ _ _ (nar_i _) ⟨rfl, e_mwarr, e_mnamesarr, hfr⟩ dX11_addOne_74
  have h := ifn c30 h
  refine G_iload hC 6 5 rfl dX11_addOne_33 ?_
  refine G_i2l hC dX11_addOne_35 ?_
  refine G_lconst hC (v := 0) (by decide) dX11_addOne_36 ?_
  refine G_ldc2 hC (v := (5)) k63 dX11_addOne_37 ?_
  obtain ⟨q40, h40, h⟩ := bnd h
  refine G_cSi (st := []) hC _ (c_X11_in  l  h40) (va_cwS 3 hC.hts gX11_addOne_X11_in rfl rfl rfl (by decide +kernel) ⟨Nat.le_of_ble_eq_true rfl, Nat.le_of_ble_eq_true rfl⟩) rfl (Nat.le_of_ble_eq_true rfl) (Nat.zero_le _) (Nat.zero_le _) rfl dX11_addOne_40 (fun r40 enx hw => ?_)
  obtain ⟨rfl, rfl⟩ := hw
  refine G_if_eq hC 72 dX11_addOne_43 (by decide) (fun c43 => ?_) (fun c43 => ?_)
  · have h := ifp c43 h
    refine G_bipush hC (v := (-2)) (by decide) dX11_addOne_72 ?_
    have h := Option.some.inj h
    subst h
    exact Kr _ _ _ _ (nar_i _) ⟨rfl, e_mwarr, e_mnamesarr, hfr⟩ dX11_addOne_74
  have h := ifn c43 h
  refine G_iload hC 7 6 rfl dX11_addOne_46 ?_
  refine G_i2l hC dX11_addOne_48 ?_
  refine G_lconst hC (v := 0) (by decide) dX11_addOne_49 ?_
  refine G_ldc2 hC (v := (20)) k65 dX11_addOne_50 ?_
  obtain ⟨q53, h53, h⟩ := bnd h
  refine G_cSi (st := []) hC _ (c_X11_in  l  h53) (va_cwS 3 hC.hts gX11_addOne_X11_in rfl rfl rfl (by decide +kernel) ⟨Nat.le_of_ble_eq_true rfl, Nat.le_of_ble_eq_true rfl⟩) rfl (Nat.le_of_ble_eq_true rfl) (Nat.zero_le _) (Nat.zero_le _) rfl dX11_addOne_53 (fun r53 enx hw => ?_)
  obtain ⟨rfl, rfl⟩ := hw
  refine G_if_eq hC 72 dX11_addOne_56 (by decide) (fun c56 => ?_) (fun c56 => ?_)
  · have h := ifp c56 h
    refine G_bipush hC (v := (-2)) (by decide) dX11_addOne_72 ?_
    have h := Option.some.inj h
    subst h
    exact Kr _ _ _ _ (nar_i _) ⟨rfl, e_mwarr, e_mnamesarr, hfr⟩ dX11_addOne_74
  have h := ifn c56 h
  refine G_iload hC 8 7 rfl dX11_addOne_59 ?_
  refine G_i2l hC dX11_addOne_61 ?_
  refine G_lconst hC (v := 1) (by decide) dX11_addOne_62 ?_
  refine G_ldc2 hC (v := (9)) k67 dX11_addOne_63 ?_
  obtain ⟨q66, h66, h⟩ := bnd h
  refine G_cSi (st := []) hC _ (c_X11_in  l  h66) (va_cwS 3 hC.hts gX11_addOne_X11_in rfl rfl rfl (by decide +kernel) ⟨Nat.le_of_ble_eq_true rfl, Nat.le_of_ble_eq_true rfl⟩) rfl (Nat.le_of_ble_eq_true rfl) (Nat.zero_le _) (Nat.zero_le _) rfl dX11_addOne_66 (fun r66 enx hw => ?_)
  obtain ⟨rfl, rfl⟩ := hw
  refine G_if_ne hC 75 dX11_addOne_69 (by decide) (fun c69 => ?_) (fun c69 => ?_)
  · have h := ifn c69 h
    refine G_aload_n hC 0 0 rfl rfl dX11_addOne_75 ?_
    refine G_get hC inX11 100 (by omega) (v := .ref (ad 101)) e_model rfl 0 (by decide) m7 rfl rfl dX11_addOne_76 ?_
    refine G_iload_n hC 1 1 rfl rfl dX11_addOne_79 ?_
    refine G_iconst hC (v := 0) (by decide) dX11_addOne_80 ?_
    refine G_iadd hC dX11_addOne_81 ?_
    obtain ⟨g82, h⟩ := asn h
    refine G_iald hC 101 (by omega) e_mwarr g82 dX11_addOne_82 ?_
    refine G_istore hC 9 [(9, .int (mw (x1 + (0 : Int32)).toNatClampNeg)), (0, .ref (ad 100)), (1, .int x1), (2, .long x2), (4, .int x4), (5, .int x5), (6, .int x6), (7, .int x7), (8, .int x8)] (by decide) rfl dX11_addOne_83 ?_
    refine G_iload hC 9 0 rfl dX11_addOne_85 ?_
    refine G_bipush hC (v := 12) (by decide) dX11_addOne_87 ?_
    refine G_icmp_ne hC 95 dX11_addOne_89 (by decide) (fun c89 => ?_) (fun c89 => ?_)
    · have h := ifn c89 h
      refine G_aload_n hC 0 1 rfl rfl dX11_addOne_95 ?_
      refine G_get hC inX11 100 (by omega) (v := .ref (ad 102)) e_model rfl 1 (by decide) m13 rfl rfl dX11_addOne_96 ?_
      refine G_iload_n hC 1 2 rfl rfl dX11_addOne_99 ?_
      refine G_bipush hC (v := 10) (by decide) dX11_addOne_100 ?_
      refine G_idiv hC (by decide) dX11_addOne_102 ?_
      refine G_iload hC 9 0 rfl dX11_addOne_103 ?_
      refine G_iadd hC dX11_addOne_105 ?_
      refine G_lload_n hC 2 3 rfl rfl dX11_addOne_106 ?_
      obtain ⟨g107, h⟩ := asn h
      refine G_last hC 102 (by omega) e_mnamesarr g107 dX11_addOne_107 (fun en2 e_mnamesarr fr => ?_)
      have e_mnamesarr : en2 102 = .inl (cs 2, 96, .inr (.inl (vp_updL mnames ((x1 / (10 : Int32)) + (mw (x1 + (0 : Int32)).toNatClampNeg)).toNatClampNeg x2))) := e_mnamesarr
      have e_model := (fr 100 (by omega)).trans e_model
      have e_mwarr := (fr 101 (by omega)).trans e_mwarr
      have hfr : ∀ j, (j < 101 ∨ 102 ≤ j) → (j < 102 ∨ 103 ≤ j) → en2 j = en j := fun j o0 o1 => (fr j (by omega)).trans (hfr j o0 o1)
      refine G_aload_n hC 0 1 rfl rfl dX11_addOne_108 ?_
      refine G_get hC inX11 100 (by omega) (v := .ref (ad 101)) e_model rfl 0 (by decide) m7 rfl rfl dX11_addOne_109 ?_
      refine G_iload_n hC 1 2 rfl rfl dX11_addOne_112 ?_
      refine G_iconst hC (v := 1) (by decide) dX11_addOne_113 ?_
      refine G_iadd hC dX11_addOne_114 ?_
      refine G_iload hC 9 0 rfl dX11_addOne_115 ?_
      refine G_iadd hC dX11_addOne_117 ?_
      refine G_iload hC 4 4 rfl dX11_addOne_118 ?_
      obtain ⟨g120, h⟩ := asn h
      refine G_iast hC 101 (by omega) e_mwarr g120 dX11_addOne_120 (fun en3 e_mwarr fr => ?_)
      have e_mwarr : en3 101 = .inl (cs 1, 960, .inl (upd mw ((x1 + (1 : Int32)) + (mw (x1 + (0 : Int32)).toNatClampNeg)).toNatClampNeg x4)) := e_mwarr
      have e_model := (fr 100 (by omega)).trans e_model
      have e_mnamesarr := (fr 102 (by omega)).trans e_mnamesarr
      have hfr : ∀ j, (j < 101 ∨ 102 ≤ j) → (j < 102 ∨ 103 ≤ j) → en3 j = en j := fun j o0 o1 => (fr j (by omega)).trans (hfr j o0 o1)
      refine G_aload_n hC 0 1 rfl rfl dX11_addOne_121 ?_
      refine G_get hC inX11 100 (by omega) (v := .ref (ad 101)) e_model rfl 0 (by decide) m7 rfl rfl dX11_addOne_122 ?_
      refine G_iload_n hC 1 2 rfl rfl dX11_addOne_125 ?_
      refine G_bipush hC (v := 13) (by decide) dX11_addOne_126 ?_
      refine G_iadd hC dX11_addOne_128 ?_
      refine G_iload hC 9 0 rfl dX11_addOne_129 ?_
      refine G_iadd hC dX11_addOne_131 ?_
      refine G_iload hC 5 5 rfl dX11_addOne_132 ?_
      obtain ⟨g134, h⟩ := asn h
      refine G_iast hC 101 (by omega) e_mwarr g134 dX11_addOne_134 (fun en4 e_mwarr fr => ?_)
      have e_mwarr : en4 101 = .inl (cs 1, 960, .inl (upd (upd mw ((x1 + (1 : Int32)) + (mw (x1 + (0 : Int32)).toNatClampNeg)).toNatClampNeg x4) ((x1 + (13 : Int32)) + (mw (x1 + (0 : Int32)).toNatClampNeg)).toNatClampNeg x5)) := e_mwarr
      have e_model := (fr 100 (by omega)).trans e_model
      have e_mnamesarr := (fr 102 (by omega)).trans e_mnamesarr
      have hfr : ∀ j, (j < 101 ∨ 102 ≤ j) → (j < 102 ∨ 103 ≤ j) → en4 j = en j := fun j o0 o1 => (fr j (by omega)).trans (hfr j o0 o1)
      refine G_aload_n hC 0 1 rfl rfl dX11_addOne_135 ?_
      refine G_get hC inX11 100 (by omega) (v := .ref (ad 101)) e_model rfl 0 (by decide) m7 rfl rfl dX11_addOne_136 ?_
      refine G_iload_n hC 1 2 rfl rfl dX11_addOne_139 ?_
      refine G_bipush hC (v := 25) (by decide) dX11_addOne_140 ?_
      refine G_iadd hC dX11_addOne_142 ?_
      refine G_iload hC 9 0 rfl dX11_addOne_143 ?_
      refine G_iadd hC dX11_addOne_145 ?_
      refine G_iload hC 6 6 rfl dX11_addOne_146 ?_
      obtain ⟨g148, h⟩ := asn h
      refine G_iast hC 101 (by omega) e_mwarr g148 dX11_addOne_148 (fun en5 e_mwarr fr => ?_)
      have e_mwarr : en5 101 = .inl (cs 1, 960, .inl (upd (upd (upd mw ((x1 + (1 : Int32)) + (mw (x1 + (0 : Int32)).toNatClampNeg)).toNatClampNeg x4) ((x1 + (13 : Int32)) + (mw (x1 + (0 : Int32)).toNatClampNeg)).toNatClampNeg x5) ((x1 + (25 : Int32)) + (mw (x1 + (0 : Int32)).toNatClampNeg)).toNatClampNeg x6)) := e_mwarr
      have e_model := (fr 100 (by omega)).trans e_model
      have e_mnamesarr := (fr 102 (by omega)).trans e_mnamesarr
      have hfr : ∀ j, (j < 101 ∨ 102 ≤ j) → (j < 102 ∨ 103 ≤ j) → en5 j = en j := fun j o0 o1 => (fr j (by omega)).trans (hfr j o0 o1)
      refine G_aload_n hC 0 1 rfl rfl dX11_addOne_149 ?_
      refine G_get hC inX11 100 (by omega) (v := .ref (ad 101)) e_model rfl 0 (by decide) m7 rfl rfl dX11_addOne_150 ?_
      refine G_iload_n hC 1 2 rfl rfl dX11_addOne_153 ?_
      refine G_bipush hC (v := 37) (by decide) dX11_addOne_154 ?_
      refine G_iadd hC dX11_addOne_156 ?_
      refine G_iload hC 9 0 rfl dX11_addOne_157 ?_
      refine G_iadd hC dX11_addOne_159 ?_
      refine G_iload hC 7 7 rfl dX11_addOne_160 ?_
      obtain ⟨g162, h⟩ := asn h
      refine G_iast hC 101 (by omega) e_mwarr g162 dX11_addOne_162 (fun en6 e_mwarr fr => ?_)
      have e_mwarr : en6 101 = .inl (cs 1, 960, .inl (upd (upd (upd (upd mw ((x1 + (1 : Int32)) + (mw (x1 + (0 : Int32)).toNatClampNeg)).toNatClampNeg x4) ((x1 + (13 : Int32)) + (mw (x1 + (0 : Int32)).toNatClampNeg)).toNatClampNeg x5) ((x1 + (25 : Int32)) + (mw (x1 + (0 : Int32)).toNatClampNeg)).toNatClampNeg x6) ((x1 + (37 : Int32)) + (mw (x1 + (0 : Int32)).toNatClampNeg)).toNatClampNeg x7)) := e_mwarr
      have e_model := (fr 100 (by omega)).trans e_model
      have e_mnamesarr := (fr 102 (by omega)).trans e_mnamesarr
      have hfr : ∀ j, (j < 101 ∨ 102 ≤ j) → (j < 102 ∨ 103 ≤ j) → en6 j = en j := fun j o0 o1 => (fr j (by omega)).trans (hfr j o0 o1)
      refine G_aload_n hC 0 1 rfl rfl dX11_addOne_163 ?_
      refine G_get hC inX11 100 (by omega) (v := .ref (ad 101)) e_model rfl 0 (by decide) m7 rfl rfl dX11_addOne_164 ?_
      refine G_iload_n hC 1 2 rfl rfl dX11_addOne_167 ?_
      refine G_bipush hC (v := 49) (by decide) dX11_addOne_168 ?_
      refine G_iadd hC dX11_addOne_170 ?_
      refine G_iload hC 9 0 rfl dX11_addOne_171 ?_
      refine G_iadd hC dX11_addOne_173 ?_
      refine G_iload hC 8 8 rfl dX11_addOne_174 ?_
      obtain ⟨g176, h⟩ := asn h
      refine G_iast hC 101 (by omega) e_mwarr g176 dX11_addOne_176 (fun en7 e_mwarr fr => ?_)
      have e_mwarr : en7 101 = .inl (cs 1, 960, .inl (upd (upd (upd (upd (upd mw ((x1 + (1 : Int32)) + (mw (x1 + (0 : Int32)).toNatClampNeg)).toNatClampNeg x4) ((x1 + (13 : Int32)) + (mw (x1 + (0 : Int32)).toNatClampNeg)).toNatClampNeg x5) ((x1 + (25 : Int32)) + (mw (x1 + (0 : Int32)).toNatClampNeg)).toNatClampNeg x6) ((x1 + (37 : Int32)) + (mw (x1 + (0 : Int32)).toNatClampNeg)).toNatClampNeg x7) ((x1 + (49 : Int32)) + (mw (x1 + (0 : Int32)).toNatClampNeg)).toNatClampNeg x8)) := e_mwarr
      have e_model := (fr 100 (by omega)).trans e_model
      have e_mnamesarr := (fr 102 (by omega)).trans e_mnamesarr
      have hfr : ∀ j, (j < 101 ∨ 102 ≤ j) → (j < 102 ∨ 103 ≤ j) → en7 j = en j := fun j o0 o1 => (fr j (by omega)).trans (hfr j o0 o1)
      refine G_aload_n hC 0 1 rfl rfl dX11_addOne_177 ?_
      refine G_get hC inX11 100 (by omega) (v := .ref (ad 101)) e_model rfl 0 (by decide) m7 rfl rfl dX11_addOne_178 ?_
      refine G_iload_n hC 1 2 rfl rfl dX11_addOne_181 ?_
      refine G_bipush hC (v := 61) (by decide) dX11_addOne_182 ?_
      refine G_iadd hC dX11_addOne_184 ?_
      refine G_iload hC 9 0 rfl dX11_addOne_185 ?_
      refine G_iadd hC dX11_addOne_187 ?_
      refine G_aload_n hC 0 1 rfl rfl dX11_addOne_188 ?_
      refine G_get hC inX11 100 (by omega) (v := .ref (ad 101)) e_model rfl 0 (by decide) m7 rfl rfl dX11_addOne_189 ?_
      refine G_iload_n hC 1 2 rfl rfl dX11_addOne_192 ?_
      refine G_bipush hC (v := 115) (by decide) dX11_addOne_193 ?_
      refine G_iadd hC dX11_addOne_195 ?_
      obtain ⟨g196, h⟩ := asn h
      refine G_iald hC 101 (by omega) e_mwarr g196 dX11_addOne_196 ?_
      obtain ⟨g197, h⟩ := asn h
      refine G_iast hC 101 (by omega) e_mwarr g197 dX11_addOne_197 (fun en8 e_mwarr fr => ?_)
      have e_mwarr : en8 101 = .inl (cs 1, 960, .inl (upd (upd (upd (upd (upd (upd mw ((x1 + (1 : Int32)) + (mw (x1 + (0 : Int32)).toNatClampNeg)).toNatClampNeg x4) ((x1 + (13 : Int32)) + (mw (x1 + (0 : Int32)).toNatClampNeg)).toNatClampNeg x5) ((x1 + (25 : Int32)) + (mw (x1 + (0 : Int32)).toNatClampNeg)).toNatClampNeg x6) ((x1 + (37 : Int32)) + (mw (x1 + (0 : Int32)).toNatClampNeg)).toNatClampNeg x7) ((x1 + (49 : Int32)) + (mw (x1 + (0 : Int32)).toNatClampNeg)).toNatClampNeg x8) ((x1 + (61 : Int32)) + (mw (x1 + (0 : Int32)).toNatClampNeg)).toNatClampNeg ((upd (upd (upd (upd (upd mw ((x1 + (1 : Int32)) + (mw (x1 + (0 : Int32)).toNatClampNeg)).toNatClampNeg x4) ((x1 + (13 : Int32)) + (mw (x1 + (0 : Int32)).toNatClampNeg)).toNatClampNeg x5) ((x1 + (25 : Int32)) + (mw (x1 + (0 : Int32)).toNatClampNeg)).toNatClampNeg x6) ((x1 + (37 : Int32)) + (mw (x1 + (0 : Int32)).toNatClampNeg)).toNatClampNeg x7) ((x1 + (49 : Int32)) + (mw (x1 + (0 : Int32)).toNatClampNeg)).toNatClampNeg x8) (x1 + (115 : Int32)).toNatClampNeg))) := e_mwarr
      have e_model := (fr 100 (by omega)).trans e_model
      have e_mnamesarr := (fr 102 (by omega)).trans e_mnamesarr
      have hfr : ∀ j, (j < 101 ∨ 102 ≤ j) → (j < 102 ∨ 103 ≤ j) → en8 j = en j := fun j o0 o1 => (fr j (by omega)).trans (hfr j o0 o1)
      refine G_aload_n hC 0 1 rfl rfl dX11_addOne_198 ?_
      refine G_get hC inX11 100 (by omega) (v := .ref (ad 101)) e_model rfl 0 (by decide) m7 rfl rfl dX11_addOne_199 ?_
      refine G_iload_n hC 1 2 rfl rfl dX11_addOne_202 ?_
      refine G_iconst hC (v := 0) (by decide) dX11_addOne_203 ?_
      refine G_iadd hC dX11_addOne_204 ?_
      refine G_dup2_11 hC rfl rfl dX11_addOne_205 ?_
      obtain ⟨g206, h⟩ := asn h
      refine G_iald hC 101 (by omega) e_mwarr g206 dX11_addOne_206 ?_
      refine G_iconst hC (v := 1) (by decide) dX11_addOne_207 ?_
      refine G_iadd hC dX11_addOne_208 ?_
      obtain ⟨g209, h⟩ := asn h
      refine G_iast hC 101 (by omega) e_mwarr g209 dX11_addOne_209 (fun en9 e_mwarr fr => ?_)
      have e_mwarr : en9 101 = .inl (cs 1, 960, .inl (upd (upd (upd (upd (upd (upd (upd mw ((x1 + (1 : Int32)) + (mw (x1 + (0 : Int32)).toNatClampNeg)).toNatClampNeg x4) ((x1 + (13 : Int32)) + (mw (x1 + (0 : Int32)).toNatClampNeg)).toNatClampNeg x5) ((x1 + (25 : Int32)) + (mw (x1 + (0 : Int32)).toNatClampNeg)).toNatClampNeg x6) ((x1 + (37 : Int32)) + (mw (x1 + (0 : Int32)).toNatClampNeg)).toNatClampNeg x7) ((x1 + (49 : Int32)) + (mw (x1 + (0 : Int32)).toNatClampNeg)).toNatClampNeg x8) ((x1 + (61 : Int32)) + (mw (x1 + (0 : Int32)).toNatClampNeg)).toNatClampNeg ((upd (upd (upd (upd (upd mw ((x1 + (1 : Int32)) + (mw (x1 + (0 : Int32)).toNatClampNeg)).toNatClampNeg x4) ((x1 + (13 : Int32)) + (mw (x1 + (0 : Int32)).toNatClampNeg)).toNatClampNeg x5) ((x1 + (25 : Int32)) + (mw (x1 + (0 : Int32)).toNatClampNeg)).toNatClampNeg x6) ((x1 + (37 : Int32)) + (mw (x1 + (0 : Int32)).toNatClampNeg)).toNatClampNeg x7) ((x1 + (49 : Int32)) + (mw (x1 + (0 : Int32)).toNatClampNeg)).toNatClampNeg x8) (x1 + (115 : Int32)).toNatClampNeg)) (x1 + (0 : Int32)).toNatClampNeg (((upd (upd (upd (upd (upd (upd mw ((x1 + (1 : Int32)) + (mw (x1 + (0 : Int32)).toNatClampNeg)).toNatClampNeg x4) ((x1 + (13 : Int32)) + (mw (x1 + (0 : Int32)).toNatClampNeg)).toNatClampNeg x5) ((x1 + (25 : Int32)) + (mw (x1 + (0 : Int32)).toNatClampNeg)).toNatClampNeg x6) ((x1 + (37 : Int32)) + (mw (x1 + (0 : Int32)).toNatClampNeg)).toNatClampNeg x7) ((x1 + (49 : Int32)) + (mw (x1 + (0 : Int32)).toNatClampNeg)).toNatClampNeg x8) ((x1 + (61 : Int32)) + (mw (x1 + (0 : Int32)).toNatClampNeg)).toNatClampNeg ((upd (upd (upd (upd (upd mw ((x1 + (1 : Int32)) + (mw (x1 + (0 : Int32)).toNatClampNeg)).toNatClampNeg x4) ((x1 + (13 : Int32)) + (mw (x1 + (0 : Int32)).toNatClampNeg)).toNatClampNeg x5) ((x1 + (25 : Int32)) + (mw (x1 + (0 : Int32)).toNatClampNeg)).toNatClampNeg x6) ((x1 + (37 : Int32)) + (mw (x1 + (0 : Int32)).toNatClampNeg)).toNatClampNeg x7) ((x1 + (49 : Int32)) + (mw (x1 + (0 : Int32)).toNatClampNeg)).toNatClampNeg x8) (x1 + (115 : Int32)).toNatClampNeg)) (x1 + (0 : Int32)).toNatClampNeg) + (1 : Int32)))) := e_mwarr
      have e_model := (fr 100 (by omega)).trans e_model
      have e_mnamesarr := (fr 102 (by omega)).trans e_mnamesarr
      have hfr : ∀ j, (j < 101 ∨ 102 ≤ j) → (j < 102 ∨ 103 ≤ j) → en9 j = en j := fun j o0 o1 => (fr j (by omega)).trans (hfr j o0 o1)
      refine G_iload hC 9 0 rfl dX11_addOne_210 ?_
      have h := Option.some.inj h
      subst h
      exact Kr _ _ _ _ (nar_i _) ⟨rfl, e_mwarr, e_mnamesarr, hfr⟩ dX11_addOne_212
    have h := ifp c89 h
    refine G_bipush hC (v := (-4)) (by decide) dX11_addOne_92 ?_
    have h := Option.some.inj h
    subst h
    exact Kr _ _ _ _ (nar_i _) ⟨rfl, e_mwarr, e_mnamesarr, hfr⟩ dX11_addOne_94
  have h := ifp c69 h
  refine G_bipush hC (v := (-2)) (by decide) dX11_addOne_72 ?_
  have h := Option.some.inj h
  subst h
  exact Kr _ _ _ _ (nar_i _) ⟨rfl, e_mwarr, e_mnamesarr, hfr⟩ dX11_addOne_74
def f_X11_set_B81   (mw : Nat → Int32) (x1 : Int32) (x2 : Int32) (x3 : Int32) (s0 : Int32) : Option (Int32 × (Nat → Int32)) := if s0 = 0 then (some ((-2 : Int32), mw)) else (if (x1 + (102 : Int32)) + x2 < 0 ∨ 960 ≤ ((x1 + (102 : Int32)) + x2).toNatClampNeg then none else (if (x1 + (102 : Int32)) + x2 < 0 ∨ 960 ≤ ((x1 + (102 : Int32)) + x2).toNatClampNeg then none else (some (mw ((x1 + (102 : Int32)) + x2).toNatClampNeg, upd mw ((x1 + (102 : Int32)) + x2).toNatClampNeg x3))))
def f_X11_set_B80   (mw : Nat → Int32) (x1 : Int32) (x2 : Int32) (x3 : Int32) : Option (Int32 × (Nat → Int32)) := f_X11_set_B81 mw x1 x2 x3 (0 : Int32)
def f_X11_set (mw : Nat → Int32) (x1 : Int32) (x2 : Int32) (x3 : Int32) : Option (Int32 × (Nat → Int32)) := if x2 = 0 then (Option.bind (f_X11_in x3.toInt64 (0 : Int64) (5 : Int64)) (fun q10 => f_X11_set_B81 mw x1 x2 x3 q10)) else (if x2 = (1 : Int32) then (Option.bind (f_X11_in x3.toInt64 (1 : Int64) (99 : Int64)) (fun q27 => f_X11_set_B81 mw x1 x2 x3 q27)) else (if x2 = (2 : Int32) then (Option.bind (f_X11_in x3.toInt64 (0 : Int64) (60 : Int64)) (fun q44 => f_X11_set_B81 mw x1 x2 x3 q44)) else (Option.bind (f_X11_in x2.toInt64 (3 : Int64) (7 : Int64)) (fun q58 => if q58 = 0 then (f_X11_set_B80 mw x1 x2 x3) else (Option.bind (f_X11_in x3.toInt64 (0 : Int64) (20 : Int64)) (fun q70 => if q70 = 0 then (f_X11_set_B80 mw x1 x2 x3) else (f_X11_set_B81 mw x1 x2 x3 (1 : Int32))))))))
set_option maxHeartbeats 4000000 in
set_option maxRecDepth 100000 in
theorem c_X11_set {D : va_G} {cs : Nat → ClassId} {sa : Nat → Nat} {n : Nat} {ad : Nat → Nat} {A : Nat → Prop} (l : Launch) {en : Nat → va_E}  {mw : Nat → Int32} {mtexted : Int32} {mundo : Int32} {mabove : Int64} {mbelow : Int64} {mitems : Int32} {mat : Int32} {mfault : Int32} {mtakes : Int32} {mmisses : Int64} {mbest : Int64} {mh : Int64} {x1 : Int32} {x2 : Int32} {x3 : Int32}  {q : Int32 × (Nat → Int32)} (hn : 110 ≤ n) (e_model : en 100 = .inr (8, [.ref (ad 101), .ref (ad 102), .ref (ad 103), .ref (ad 104), .int mtexted, .int mundo, .long mabove, .long mbelow, .ref (ad 105), .ref (ad 106), .ref (ad 107), .ref (ad 108), .int mitems, .int mat, .int mfault, .int mtakes, .long mmisses, .long mbest, .ref (ad 109), .long mh])) (e_mwarr : en 101 = .inl (cs 1, 960, .inl (mw))) (h : f_X11_set mw x1 x2 x3 = some q) : Met l yX11_set wsX11_set { frames := 1, cells := 0, slots := 0, locals := 25 } (va_Pc [.ref (ad 100), .int x1, .int x2, .int x3] (Wd D cs sa n ad A en)) (va_Qi (fun r u => q.1 = r ∧ u 101 = .inl (cs 1, 960, .inl (q.2)) ∧ (∀ j, (j < 101 ∨ 102 ≤ j) → u j = en j)) (Wd D cs sa n ad A) A) 0 0 A := by
  refine G_startI cX11_set 6 [(0, .ref (ad 100)), (1, .int x1), (2, .int x2), (3, .int x3)] (by decide) rfl (Nat.le_of_ble_eq_true rfl) rfl ?_
  intro p e s m args below meth c Q hC hnm Kr
  have inX11 : ∀ w ∈ u_ws RX11 TX11 20, w ∈ wsX11_set := by decide +kernel
  have k63 : Cond.constantLong RX11 63 (5) ∈ wsX11_set := by decide +kernel
  have k65 : Cond.constantLong RX11 65 (20) ∈ wsX11_set := by decide +kernel
  have k69 : Cond.constantLong RX11 69 (99) ∈ wsX11_set := by decide +kernel
  have k71 : Cond.constantLong RX11 71 (60) ∈ wsX11_set := by decide +kernel
  have k73 : Cond.constantLong RX11 73 (3) ∈ wsX11_set := by decide +kernel
  have k75 : Cond.constantLong RX11 75 (7) ∈ wsX11_set := by decide +kernel
  have m7 : Cond.fieldLink RX11 7 "TongueTipModel" "w" "[I" ∈ wsX11_set := by decide +kernel
  have hB81 : ∀ (en1 : Nat → va_E) (mw : Nat → Int32) (x1 : Int32) (x2 : Int32) (x3 : Int32) (s0 : Int32), en1 100 = .inr (8, [.ref (ad 101), .ref (ad 102), .ref (ad 103), .ref (ad 104), .int mtexted, .int mundo, .long mabove, .long mbelow, .ref (ad 105), .ref (ad 106), .ref (ad 107), .ref (ad 108), .int mitems, .int mat, .int mfault, .int mtakes, .long mmisses, .long mbest, .ref (ad 109), .long mh]) → en1 101 = .inl (cs 1, 960, .inl (mw)) → (∀ j, (j < 101 ∨ 102 ≤ j) → en1 j = en j) → f_X11_set_B81 mw x1 x2 x3 s0 = some q → G p l e ({ frames := 1, cells := 0, slots := 0, locals := 25 } : Room) s m args below meth c D n ad A 6 0 0 Q en1 81 [(0, .ref (ad 100)), (1, .int x1), (2, .int x2), (3, .int x3)] [.int s0] := by
    intro en1 mw x1 x2 x3 s0 e_model e_mwarr hfr h
    unfold f_X11_set_B81 at h
    refine G_istore hC 4 [(4, .int s0), (0, .ref (ad 100)), (1, .int x1), (2, .int x2), (3, .int x3)] (by decide) rfl dX11_set_81 ?_
    refine G_iload hC 4 0 rfl dX11_set_83 ?_
    refine G_if_ne hC 91 dX11_set_85 (by decide) (fun c85 => ?_) (fun c85 => ?_)
    · have h := ifn c85 h
      refine G_aload_n hC 0 1 rfl rfl dX11_set_91 ?_
      refine G_get hC inX11 100 (by omega) (v := .ref (ad 101)) e_model rfl 0 (by decide) m7 rfl rfl dX11_set_92 ?_
      refine G_iload_n hC 1 2 rfl rfl dX11_set_95 ?_
      refine G_bipush hC (v := 102) (by decide) dX11_set_96 ?_
      refine G_iadd hC dX11_set_98 ?_
      refine G_iload_n hC 2 3 rfl rfl dX11_set_99 ?_
      refine G_iadd hC dX11_set_100 ?_
      obtain ⟨g101, h⟩ := asn h
      refine G_iald hC 101 (by omega) e_mwarr g101 dX11_set_101 ?_
      refine G_istore hC 5 [(5, .int (mw ((x1 + (102 : Int32)) + x2).toNatClampNeg)), (4, .int s0), (0, .ref (ad 100)), (1, .int x1), (2, .int x2), (3, .int x3)] (by decide) rfl dX11_set_102 ?_
      refine G_aload_n hC 0 2 rfl rfl dX11_set_104 ?_
      refine G_get hC inX11 100 (by omega) (v := .ref (ad 101)) e_model rfl 0 (by decide) m7 rfl rfl dX11_set_105 ?_
      refine G_iload_n hC 1 3 rfl rfl dX11_set_108 ?_
      refine G_bipush hC (v := 102) (by decide) dX11_set_109 ?_
      refine G_iadd hC dX11_set_111 ?_
      refine G_iload_n hC 2 4 rfl rfl dX11_set_112 ?_
      refine G_iadd hC dX11_set_113 ?_
      refine G_iload_n hC 3 5 rfl rfl dX11_set_114 ?_
      obtain ⟨g115, h⟩ := asn h
      refine G_iast hC 101 (by omega) e_mwarr g115 dX11_set_115 (fun en2 e_mwarr fr => ?_)
      have e_mwarr : en2 101 = .inl (cs 1, 960, .inl (upd mw ((x1 + (102 : Int32)) + x2).toNatClampNeg x3)) := e_mwarr
      have e_model := (fr 100 (by omega)).trans e_model
      have hfr : ∀ j, (j < 101 ∨ 102 ≤ j) → en2 j = en j := fun j o0 => (fr j (by omega)).trans (hfr j o0)
      refine G_iload hC 5 0 rfl dX11_set_116 ?_
      have h := Option.some.inj h
      subst h
      exact Kr _ _ _ _ (nar_i _) ⟨rfl, e_mwarr, hfr⟩ dX11_set_118
    have h := ifp c85 h
    refine G_bipush hC (v := (-2)) (by decide) dX11_set_88 ?_
    have h := Option.some.inj h
    subst h
    exact Kr _ _ _ _ (nar_i _) ⟨rfl, e_mwarr, hfr⟩ dX11_set_90
  have hB80 : ∀ (en1 : Nat → va_E) (mw : Nat → Int32) (x1 : Int32) (x2 : Int32) (x3 : Int32), en1 100 = .inr (8, [.ref (ad 101), .ref (ad 102), .ref (ad 103), .ref (ad 104), .int mtexted, .int mundo, .long mabove, .long mbelow, .ref (ad 105), .ref (ad 106), .ref (ad 107), .ref (ad 108), .int mitems, .int mat, .int mfault, .int mtakes, .long mmisses, .long mbest, .ref (ad 109), .long mh]) → en1 101 = .inl (cs 1, 960, .inl (mw)) → (∀ j, (j < 101 ∨ 102 ≤ j) → en1 j = en j) → f_X11_set_B80 mw x1 x2 x3 = some q → G p l e ({ frames := 1, cells := 0, slots := 0, locals := 25 } : Room) s m args below meth c D n ad A 6 0 0 Q en1 80 [(0, .ref (ad 100)), (1, .int x1), (2, .int x2), (3, .int x3)] [] := by
    intro en1 mw x1 x2 x3 e_model e_mwarr hfr h
    unfold f_X11_set_B80 at h
    refine G_iconst hC (v := 0) (by decide) dX11_set_80 ?_
    refine G_lv [0, 1, 2, 3] rfl ?_
    exact hB81 _ _ _ _ _ _ e_model e_mwarr hfr h
  unfold f_X11_set at h
  have hfr : ∀ j, (j < 101 ∨ 102 ≤ j) → en j = en j := fun _ _ => rfl
  refine G_iload_n hC 2 2 rfl rfl dX11_set_0 ?_
  refine G_if_ne hC 16 dX11_set_1 (by decide) (fun c1 => ?_) (fun c1 => ?_)
  · have h := ifn c1 h
    refine G_iload_n hC 2 2 rfl rfl dX11_set_16 ?_
    refine G_iconst hC (v := 1) (by decide) dX11_set_17 ?_
    refine G_icmp_ne hC 33 dX11_set_18 (by decide) (fun c18 => ?_) (fun c18 => ?_)
    · have h := ifn c18 h
      refine G_iload_n hC 2 2 rfl rfl dX11_set_33 ?_
      refine G_iconst hC (v := 2) (by decide) dX11_set_34 ?_
      refine G_icmp_ne hC 50 dX11_set_35 (by decide) (fun c35 => ?_) (fun c35 => ?_)
      · have h := ifn c35 h
        refine G_iload_n hC 2 2 rfl rfl dX11_set_50 ?_
        refine G_i2l hC dX11_set_51 ?_
        refine G_ldc2 hC (v := (3)) k73 dX11_set_52 ?_
        refine G_ldc2 hC (v := (7)) k75 dX11_set_55 ?_
        obtain ⟨q58, h58, h⟩ := bnd h
        refine G_cSi (st := []) hC _ (c_X11_in  l  h58) (va_cwS 3 hC.hts gX11_set_X11_in rfl rfl rfl (by decide +kernel) ⟨Nat.le_of_ble_eq_true rfl, Nat.le_of_ble_eq_true rfl⟩) rfl (Nat.le_of_ble_eq_true rfl) (Nat.zero_le _) (Nat.zero_le _) rfl dX11_set_58 (fun r58 enx hw => ?_)
        obtain ⟨rfl, rfl⟩ := hw
        refine G_if_eq hC 80 dX11_set_61 (by decide) (fun c61 => ?_) (fun c61 => ?_)
        · have h := ifp c61 h
          refine G_lv [0, 1, 2, 3] rfl ?_
          exact hB80 _ _ _ _ _ e_model e_mwarr hfr h
        have h := ifn c61 h
        refine G_iload_n hC 3 3 rfl rfl dX11_set_64 ?_
        refine G_i2l hC dX11_set_65 ?_
        refine G_lconst hC (v := 0) (by decide) dX11_set_66 ?_
        refine G_ldc2 hC (v := (20)) k65 dX11_set_67 ?_
        obtain ⟨q70, h70, h⟩ := bnd h
        refine G_cSi (st := []) hC _ (c_X11_in  l  h70) (va_cwS 3 hC.hts gX11_set_X11_in rfl rfl rfl (by decide +kernel) ⟨Nat.le_of_ble_eq_true rfl, Nat.le_of_ble_eq_true rfl⟩) rfl (Nat.le_of_ble_eq_true rfl) (Nat.zero_le _) (Nat.zero_le _) rfl dX11_set_70 (fun r70 enx hw => ?_)
        obtain ⟨rfl, rfl⟩ := hw
        refine G_if_eq hC 80 dX11_set_73 (by decide) (fun c73 => ?_) (fun c73 => ?_)
        · have h := ifp c73 h
          refine G_lv [0, 1, 2, 3] rfl ?_
          exact hB80 _ _ _ _ _ e_model e_mwarr hfr h
        have h := ifn c73 h
        refine G_iconst hC (v := 1) (by decide) dX11_set_76 ?_
        refine G_goto hC 81 dX11_set_77 (by decide) ?_
        refine G_lv [0, 1, 2, 3] rfl ?_
        exact hB81 _ _ _ _ _ _ e_model e_mwarr hfr h
      have h := ifp c35 h
      refine G_iload_n hC 3 3 rfl rfl dX11_set_38 ?_
      refine G_i2l hC dX11_set_39 ?_
      refine G_lconst hC (v := 0) (by decide) dX11_set_40 ?_
      refine G_ldc2 hC (v := (60)) k71 dX11_set_41 ?_
      obtain ⟨q44, h44, h⟩ := bnd h
      refine G_cSi (st := []) hC _ (c_X11_in  l  h44) (va_cwS 3 hC.hts gX11_set_X11_in rfl rfl rfl (by decide +kernel) ⟨Nat.le_of_ble_eq_true rfl, Nat.le_of_ble_eq_true rfl⟩) rfl (Nat.le_of_ble_eq_true rfl) (Nat.zero_le _) (Nat.zero_le _) rfl dX11_set_44 (fun r44 enx hw => ?_)
      obtain ⟨rfl, rfl⟩ := hw
      refine G_goto hC 81 dX11_set_47 (by decide) ?_
      refine G_lv [0, 1, 2, 3] rfl ?_
      exact hB81 _ _ _ _ _ _ e_model e_mwarr hfr h
    have h := ifp c18 h
    refine G_iload_n hC 3 3 rfl rfl dX11_set_21 ?_
    refine G_i2l hC dX11_set_22 ?_
    refine G_lconst hC (v := 1) (by decide) dX11_set_23 ?_
    refine G_ldc2 hC (v := (99)) k69 dX11_set_24 ?_
    obtain ⟨q27, h27, h⟩ := bnd h
    refine G_cSi (st := []) hC _ (c_X11_in  l  h27) (va_cwS 3 hC.hts gX11_set_X11_in rfl rfl rfl (by decide +kernel) ⟨Nat.le_of_ble_eq_true rfl, Nat.le_of_ble_eq_true rfl⟩) rfl (Nat.le_of_ble_eq_true rfl) (Nat.zero_le _) (Nat.zero_le _) rfl dX11_set_27 (fun r27 enx hw => ?_)
    obtain ⟨rfl, rfl⟩ := hw
    refine G_goto hC 81 dX11_set_30 (by decide) ?_
    refine G_lv [0, 1, 2, 3] rfl ?_
    exact hB81 _ _ _ _ _ _ e_model e_mwarr hfr h
  have h := ifp c1 h
  refine G_iload_n hC 3 3 rfl rfl dX11_set_4 ?_
  refine G_i2l hC dX11_set_5 ?_
  refine G_lconst hC (v := 0) (by decide) dX11_set_6 ?_
  refine G_ldc2 hC (v := (5)) k63 dX11_set_7 ?_
  obtain ⟨q10, h10, h⟩ := bnd h
  refine G_cSi (st := []) hC _ (c_X11_in  l  h10) (va_cwS 3 hC.hts gX11_set_X11_in rfl rfl rfl (by decide +kernel) ⟨Nat.le_of_ble_eq_true rfl, Nat.le_of_ble_eq_true rfl⟩) rfl (Nat.le_of_ble_eq_true rfl) (Nat.zero_le _) (Nat.zero_le _) rfl dX11_set_10 (fun r10 enx hw => ?_)
  obtain ⟨rfl, rfl⟩ := hw
  refine G_goto hC 81 dX11_set_13 (by decide) ?_
  refine G_lv [0, 1, 2, 3] rfl ?_
  exact hB81 _ _ _ _ _ _ e_model e_mwarr hfr h
def f_X11_oneTry (mw : Nat → Int32) (x1 : Int32) (x2 : Int32) (x3 : Int32) (x4 : Int32) : Option (Int32 × (Nat → Int32)) := Option.bind (f_X11_in x2.toInt64 (0 : Int64) (5 : Int64)) (fun q6 => if q6 = 0 then (some ((-2 : Int32), mw)) else (Option.bind (f_X11_in x3.toInt64 (1 : Int64) (20 : Int64)) (fun q18 => if q18 = 0 then (some ((-2 : Int32), mw)) else (Option.bind (f_X11_in x4.toInt64 (1 : Int64) (20 : Int64)) (fun q31 => if q31 = 0 then (some ((-2 : Int32), mw)) else (if x1 + (73 : Int32) < 0 ∨ 960 ≤ (x1 + (73 : Int32)).toNatClampNeg then none else (if mw (x1 + (73 : Int32)).toNatClampNeg = (5 : Int32) then (some ((-4 : Int32), mw)) else (if (x1 + (74 : Int32)) + (mw (x1 + (73 : Int32)).toNatClampNeg) < 0 ∨ 960 ≤ ((x1 + (74 : Int32)) + (mw (x1 + (73 : Int32)).toNatClampNeg)).toNatClampNeg then none else (if (x1 + (79 : Int32)) + (mw (x1 + (73 : Int32)).toNatClampNeg) < 0 ∨ 960 ≤ ((x1 + (79 : Int32)) + (mw (x1 + (73 : Int32)).toNatClampNeg)).toNatClampNeg then none else (if (x1 + (84 : Int32)) + (mw (x1 + (73 : Int32)).toNatClampNeg) < 0 ∨ 960 ≤ ((x1 + (84 : Int32)) + (mw (x1 + (73 : Int32)).toNatClampNeg)).toNatClampNeg then none else (if x1 + (73 : Int32) < 0 ∨ 960 ≤ (x1 + (73 : Int32)).toNatClampNeg then none else (if x1 + (73 : Int32) < 0 ∨ 960 ≤ (x1 + (73 : Int32)).toNatClampNeg then none else (some (mw (x1 + (73 : Int32)).toNatClampNeg, upd (upd (upd (upd mw ((x1 + (74 : Int32)) + (mw (x1 + (73 : Int32)).toNatClampNeg)).toNatClampNeg x2) ((x1 + (79 : Int32)) + (mw (x1 + (73 : Int32)).toNatClampNeg)).toNatClampNeg x3) ((x1 + (84 : Int32)) + (mw (x1 + (73 : Int32)).toNatClampNeg)).toNatClampNeg x4) (x1 + (73 : Int32)).toNatClampNeg (((upd (upd (upd mw ((x1 + (74 : Int32)) + (mw (x1 + (73 : Int32)).toNatClampNeg)).toNatClampNeg x2) ((x1 + (79 : Int32)) + (mw (x1 + (73 : Int32)).toNatClampNeg)).toNatClampNeg x3) ((x1 + (84 : Int32)) + (mw (x1 + (73 : Int32)).toNatClampNeg)).toNatClampNeg x4) (x1 + (73 : Int32)).toNatClampNeg) + (1 : Int32))))))))))))))))
set_option maxHeartbeats 4000000 in
set_option maxRecDepth 100000 in
theorem c_X11_oneTry {D : va_G} {cs : Nat → ClassId} {sa : Nat → Nat} {n : Nat} {ad : Nat → Nat} {A : Nat → Prop} (l : Launch) {en : Nat → va_E}  {mw : Nat → Int32} {mtexted : Int32} {mundo : Int32} {mabove : Int64} {mbelow : Int64} {mitems : Int32} {mat : Int32} {mfault : Int32} {mtakes : Int32} {mmisses : Int64} {mbest : Int64} {mh : Int64} {x1 : Int32} {x2 : Int32} {x3 : Int32} {x4 : Int32}  {q : Int32 × (Nat → Int32)} (hn : 110 ≤ n) (e_model : en 100 = .inr (8, [.ref (ad 101), .ref (ad 102), .ref (ad 103), .ref (ad 104), .int mtexted, .int mundo, .long mabove, .long mbelow, .ref (ad 105), .ref (ad 106), .ref (ad 107), .ref (ad 108), .int mitems, .int mat, .int mfault, .int mtakes, .long mmisses, .long mbest, .ref (ad 109), .long mh])) (e_mwarr : en 101 = .inl (cs 1, 960, .inl (mw))) (h : f_X11_oneTry mw x1 x2 x3 x4 = some q) : Met l yX11_oneTry wsX11_oneTry { frames := 1, cells := 0, slots := 0, locals := 25 } (va_Pc [.ref (ad 100), .int x1, .int x2, .int x3, .int x4] (Wd D cs sa n ad A en)) (va_Qi (fun r u => q.1 = r ∧ u 101 = .inl (cs 1, 960, .inl (q.2)) ∧ (∀ j, (j < 101 ∨ 102 ≤ j) → u j = en j)) (Wd D cs sa n ad A) A) 0 0 A := by
  refine G_startI cX11_oneTry 6 [(0, .ref (ad 100)), (1, .int x1), (2, .int x2), (3, .int x3), (4, .int x4)] (by decide) rfl (Nat.le_of_ble_eq_true rfl) rfl ?_
  intro p e s m args below meth c Q hC hnm Kr
  have inX11 : ∀ w ∈ u_ws RX11 TX11 20, w ∈ wsX11_oneTry := by decide +kernel
  have k63 : Cond.constantLong RX11 63 (5) ∈ wsX11_oneTry := by decide +kernel
  have k65 : Cond.constantLong RX11 65 (20) ∈ wsX11_oneTry := by decide +kernel
  have m7 : Cond.fieldLink RX11 7 "TongueTipModel" "w" "[I" ∈ wsX11_oneTry := by decide +kernel
  unfold f_X11_oneTry at h
  have hfr : ∀ j, (j < 101 ∨ 102 ≤ j) → en j = en j := fun _ _ => rfl
  refine G_iload_n hC 2 2 rfl rfl dX11_oneTry_0 ?_
  refine G_i2l hC dX11_oneTry_1 ?_
  refine G_lconst hC (v := 0) (by decide) dX11_oneTry_2 ?_
  refine G_ldc2 hC (v := (5)) k63 dX11_oneTry_3 ?_
  obtain ⟨q6, h6, h⟩ := bnd h
  refine G_cSi (st := []) hC _ (c_X11_in  l  h6) (va_cwS 3 hC.hts gX11_oneTry_X11_in rfl rfl rfl (by decide +kernel) ⟨Nat.le_of_ble_eq_true rfl, Nat.le_of_ble_eq_true rfl⟩) rfl (Nat.le_of_ble_eq_true rfl) (Nat.zero_le _) (Nat.zero_le _) rfl dX11_oneTry_6 (fun r6 enx hw => ?_)
  obtain ⟨rfl, rfl⟩ := hw
  refine G_if_eq hC 37 dX11_oneTry_9 (by decide) (fun c9 => ?_) (fun c9 => ?_)
  · have h := ifp c9 h
    refine G_bipush hC (v := (-2)) (by decide) dX11_oneTry_37 ?_
    have h := Option.some.inj h
    subst h
    exact Kr _ _ _ _ (nar_i _) ⟨rfl, e_mwarr, hfr⟩ dX11_oneTry_39
  have h := ifn c9 h
  refine G_iload_n hC 3 3 rfl rfl dX11_oneTry_12 ?_
  refine G_i2l hC dX11_oneTry_13 ?_
  refine G_lconst hC (v := 1) (by decide) dX11_oneTry_14 ?_
  refine G_ldc2 hC (v := (20)) k65 dX11_oneTry_15 ?_
  obtain ⟨q18, h18, h⟩ := bnd h
  refine G_cSi (st := []) hC _ (c_X11_in  l  h18) (va_cwS 3 hC.hts gX11_oneTry_X11_in rfl rfl rfl (by decide +kernel) ⟨Nat.le_of_ble_eq_true rfl, Nat.le_of_ble_eq_true rfl⟩) rfl (Nat.le_of_ble_eq_true rfl) (Nat.zero_le _) (Nat.zero_le _) rfl dX11_oneTry_18 (fun r18 enx hw => ?_)
  obtain ⟨rfl, rfl⟩ := hw
  refine G_if_eq hC 37 dX11_oneTry_21 (by decide) (fun c21 => ?_) (fun c21 => ?_)
  · have h := ifp c21 h
    refine G_bipush hC (v := (-2)) (by decide) dX11_oneTry_37 ?_
    have h := Option.some.inj h
    subst h
    exact Kr _ _ _ _ (nar_i _) ⟨rfl, e_mwarr, hfr⟩ dX11_oneTry_39
  have h := ifn c21 h
  refine G_iload hC 4 4 rfl dX11_oneTry_24 ?_
  refine G_i2l hC dX11_oneTry_26 ?_
  refine G_lconst hC (v := 1) (by decide) dX11_oneTry_27 ?_
  refine G_ldc2 hC (v := (20)) k65 dX11_oneTry_28 ?_
  obtain ⟨q31, h31, h⟩ := bnd h
  refine G_cSi (st := []) hC _ (c_X11_in  l  h31) (va_cwS 3 hC.hts gX11_oneTry_X11_in rfl rfl rfl (by decide +kernel) ⟨Nat.le_of_ble_eq_true rfl, Nat.le_of_ble_eq_true rfl⟩) rfl (Nat.le_of_ble_eq_true rfl) (Nat.zero_le _) (Nat.zero_le _) rfl dX11_oneTry_31 (fun r31 enx hw => ?_)
  obtain ⟨rfl, rfl⟩ := hw
  refine G_if_ne hC 40 dX11_oneTry_34 (by decide) (fun c34 => ?_) (fun c34 => ?_)
  · have h := ifn c34 h
    refine G_aload_n hC 0 0 rfl rfl dX11_oneTry_40 ?_
    refine G_get hC inX11 100 (by omega) (v := .ref (ad 101)) e_model rfl 0 (by decide) m7 rfl rfl dX11_oneTry_41 ?_
    refine G_iload_n hC 1 1 rfl rfl dX11_oneTry_44 ?_
    refine G_bipush hC (v := 73) (by decide) dX11_oneTry_45 ?_
    refine G_iadd hC dX11_oneTry_47 ?_
    obtain ⟨g48, h⟩ := asn h
    refine G_iald hC 101 (by omega) e_mwarr g48 dX11_oneTry_48 ?_
    refine G_istore hC 5 [(5, .int (mw (x1 + (73 : Int32)).toNatClampNeg)), (0, .ref (ad 100)), (1, .int x1), (2, .int x2), (3, .int x3), (4, .int x4)] (by decide) rfl dX11_oneTry_49 ?_
    refine G_iload hC 5 0 rfl dX11_oneTry_51 ?_
    refine G_iconst hC (v := 5) (by decide) dX11_oneTry_53 ?_
    refine G_icmp_ne hC 60 dX11_oneTry_54 (by decide) (fun c54 => ?_) (fun c54 => ?_)
    · have h := ifn c54 h
      refine G_aload_n hC 0 1 rfl rfl dX11_oneTry_60 ?_
      refine G_get hC inX11 100 (by omega) (v := .ref (ad 101)) e_model rfl 0 (by decide) m7 rfl rfl dX11_oneTry_61 ?_
      refine G_iload_n hC 1 2 rfl rfl dX11_oneTry_64 ?_
      refine G_bipush hC (v := 74) (by decide) dX11_oneTry_65 ?_
      refine G_iadd hC dX11_oneTry_67 ?_
      refine G_iload hC 5 0 rfl dX11_oneTry_68 ?_
      refine G_iadd hC dX11_oneTry_70 ?_
      refine G_iload_n hC 2 3 rfl rfl dX11_oneTry_71 ?_
      obtain ⟨g72, h⟩ := asn h
      refine G_iast hC 101 (by omega) e_mwarr g72 dX11_oneTry_72 (fun en2 e_mwarr fr => ?_)
      have e_mwarr : en2 101 = .inl (cs 1, 960, .inl (upd mw ((x1 + (74 : Int32)) + (mw (x1 + (73 : Int32)).toNatClampNeg)).toNatClampNeg x2)) := e_mwarr
      have e_model := (fr 100 (by omega)).trans e_model
      have hfr : ∀ j, (j < 101 ∨ 102 ≤ j) → en2 j = en j := fun j o0 => (fr j (by omega)).trans (hfr j o0)
      refine G_aload_n hC 0 1 rfl rfl dX11_oneTry_73 ?_
      refine G_get hC inX11 100 (by omega) (v := .ref (ad 101)) e_model rfl 0 (by decide) m7 rfl rfl dX11_oneTry_74 ?_
      refine G_iload_n hC 1 2 rfl rfl dX11_oneTry_77 ?_
      refine G_bipush hC (v := 79) (by decide) dX11_oneTry_78 ?_
      refine G_iadd hC dX11_oneTry_80 ?_
      refine G_iload hC 5 0 rfl dX11_oneTry_81 ?_
      refine G_iadd hC dX11_oneTry_83 ?_
      refine G_iload_n hC 3 4 rfl rfl dX11_oneTry_84 ?_
      obtain ⟨g85, h⟩ := asn h
      refine G_iast hC 101 (by omega) e_mwarr g85 dX11_oneTry_85 (fun en3 e_mwarr fr => ?_)
      have e_mwarr : en3 101 = .inl (cs 1, 960, .inl (upd (upd mw ((x1 + (74 : Int32)) + (mw (x1 + (73 : Int32)).toNatClampNeg)).toNatClampNeg x2) ((x1 + (79 : Int32)) + (mw (x1 + (73 : Int32)).toNatClampNeg)).toNatClampNeg x3)) := e_mwarr
      have e_model := (fr 100 (by omega)).trans e_model
      have hfr : ∀ j, (j < 101 ∨ 102 ≤ j) → en3 j = en j := fun j o0 => (fr j (by omega)).trans (hfr j o0)
      refine G_aload_n hC 0 1 rfl rfl dX11_oneTry_86 ?_
      refine G_get hC inX11 100 (by omega) (v := .ref (ad 101)) e_model rfl 0 (by decide) m7 rfl rfl dX11_oneTry_87 ?_
      refine G_iload_n hC 1 2 rfl rfl dX11_oneTry_90 ?_
      refine G_bipush hC (v := 84) (by decide) dX11_oneTry_91 ?_
      refine G_iadd hC dX11_oneTry_93 ?_
      refine G_iload hC 5 0 rfl dX11_oneTry_94 ?_
      refine G_iadd hC dX11_oneTry_96 ?_
      refine G_iload hC 4 5 rfl dX11_oneTry_97 ?_
      obtain ⟨g99, h⟩ := asn h
      refine G_iast hC 101 (by omega) e_mwarr g99 dX11_oneTry_99 (fun en4 e_mwarr fr => ?_)
      have e_mwarr : en4 101 = .inl (cs 1, 960, .inl (upd (upd (upd mw ((x1 + (74 : Int32)) + (mw (x1 + (73 : Int32)).toNatClampNeg)).toNatClampNeg x2) ((x1 + (79 : Int32)) + (mw (x1 + (73 : Int32)).toNatClampNeg)).toNatClampNeg x3) ((x1 + (84 : Int32)) + (mw (x1 + (73 : Int32)).toNatClampNeg)).toNatClampNeg x4)) := e_mwarr
      have e_model := (fr 100 (by omega)).trans e_model
      have hfr : ∀ j, (j < 101 ∨ 102 ≤ j) → en4 j = en j := fun j o0 => (fr j (by omega)).trans (hfr j o0)
      refine G_aload_n hC 0 1 rfl rfl dX11_oneTry_100 ?_
      refine G_get hC inX11 100 (by omega) (v := .ref (ad 101)) e_model rfl 0 (by decide) m7 rfl rfl dX11_oneTry_101 ?_
      refine G_iload_n hC 1 2 rfl rfl dX11_oneTry_104 ?_
      refine G_bipush hC (v := 73) (by decide) dX11_oneTry_105 ?_
      refine G_iadd hC dX11_oneTry_107 ?_
      refine G_dup2_11 hC rfl rfl dX11_oneTry_108 ?_
      obtain ⟨g109, h⟩ := asn h
      refine G_iald hC 101 (by omega) e_mwarr g109 dX11_oneTry_109 ?_
      refine G_iconst hC (v := 1) (by decide) dX11_oneTry_110 ?_
      refine G_iadd hC dX11_oneTry_111 ?_
      obtain ⟨g112, h⟩ := asn h
      refine G_iast hC 101 (by omega) e_mwarr g112 dX11_oneTry_112 (fun en5 e_mwarr fr => ?_)
      have e_mwarr : en5 101 = .inl (cs 1, 960, .inl (upd (upd (upd (upd mw ((x1 + (74 : Int32)) + (mw (x1 + (73 : Int32)).toNatClampNeg)).toNatClampNeg x2) ((x1 + (79 : Int32)) + (mw (x1 + (73 : Int32)).toNatClampNeg)).toNatClampNeg x3) ((x1 + (84 : Int32)) + (mw (x1 + (73 : Int32)).toNatClampNeg)).toNatClampNeg x4) (x1 + (73 : Int32)).toNatClampNeg (((upd (upd (upd mw ((x1 + (74 : Int32)) + (mw (x1 + (73 : Int32)).toNatClampNeg)).toNatClampNeg x2) ((x1 + (79 : Int32)) + (mw (x1 + (73 : Int32)).toNatClampNeg)).toNatClampNeg x3) ((x1 + (84 : Int32)) + (mw (x1 + (73 : Int32)).toNatClampNeg)).toNatClampNeg x4) (x1 + (73 : Int32)).toNatClampNeg) + (1 : Int32)))) := e_mwarr
      have e_model := (fr 100 (by omega)).trans e_model
      have hfr : ∀ j, (j < 101 ∨ 102 ≤ j) → en5 j = en j := fun j o0 => (fr j (by omega)).trans (hfr j o0)
      refine G_iload hC 5 0 rfl dX11_oneTry_113 ?_
      have h := Option.some.inj h
      subst h
      exact Kr _ _ _ _ (nar_i _) ⟨rfl, e_mwarr, hfr⟩ dX11_oneTry_115
    have h := ifp c54 h
    refine G_bipush hC (v := (-4)) (by decide) dX11_oneTry_57 ?_
    have h := Option.some.inj h
    subst h
    exact Kr _ _ _ _ (nar_i _) ⟨rfl, e_mwarr, hfr⟩ dX11_oneTry_59
  have h := ifp c34 h
  refine G_bipush hC (v := (-2)) (by decide) dX11_oneTry_37 ?_
  have h := Option.some.inj h
  subst h
  exact Kr _ _ _ _ (nar_i _) ⟨rfl, e_mwarr, hfr⟩ dX11_oneTry_39
def f_X11_oneQuestion (mw : Nat → Int32) (x1 : Int32) (x2 : Int32) (x3 : Int32) : Option (Int32 × (Nat → Int32)) := Option.bind (f_X11_in x2.toInt64 (0 : Int64) (4 : Int64)) (fun q6 => if q6 = 0 then (some ((-2 : Int32), mw)) else (Option.bind (f_X11_in x3.toInt64 (0 : Int64) (9 : Int64)) (fun q18 => if q18 = 0 then (some ((-2 : Int32), mw)) else (if x1 + (89 : Int32) < 0 ∨ 960 ≤ (x1 + (89 : Int32)).toNatClampNeg then none else (if mw (x1 + (89 : Int32)).toNatClampNeg = (6 : Int32) then (some ((-4 : Int32), mw)) else (if (x1 + (90 : Int32)) + (mw (x1 + (89 : Int32)).toNatClampNeg) < 0 ∨ 960 ≤ ((x1 + (90 : Int32)) + (mw (x1 + (89 : Int32)).toNatClampNeg)).toNatClampNeg then none else (if (x1 + (96 : Int32)) + (mw (x1 + (89 : Int32)).toNatClampNeg) < 0 ∨ 960 ≤ ((x1 + (96 : Int32)) + (mw (x1 + (89 : Int32)).toNatClampNeg)).toNatClampNeg then none else (if x1 + (89 : Int32) < 0 ∨ 960 ≤ (x1 + (89 : Int32)).toNatClampNeg then none else (if x1 + (89 : Int32) < 0 ∨ 960 ≤ (x1 + (89 : Int32)).toNatClampNeg then none else (some (mw (x1 + (89 : Int32)).toNatClampNeg, upd (upd (upd mw ((x1 + (90 : Int32)) + (mw (x1 + (89 : Int32)).toNatClampNeg)).toNatClampNeg x2) ((x1 + (96 : Int32)) + (mw (x1 + (89 : Int32)).toNatClampNeg)).toNatClampNeg x3) (x1 + (89 : Int32)).toNatClampNeg (((upd (upd mw ((x1 + (90 : Int32)) + (mw (x1 + (89 : Int32)).toNatClampNeg)).toNatClampNeg x2) ((x1 + (96 : Int32)) + (mw (x1 + (89 : Int32)).toNatClampNeg)).toNatClampNeg x3) (x1 + (89 : Int32)).toNatClampNeg) + (1 : Int32)))))))))))))
set_option maxHeartbeats 4000000 in
set_option maxRecDepth 100000 in
theorem c_X11_oneQuestion {D : va_G} {cs : Nat → ClassId} {sa : Nat → Nat} {n : Nat} {ad : Nat → Nat} {A : Nat → Prop} (l : Launch) {en : Nat → va_E}  {mw : Nat → Int32} {mtexted : Int32} {mundo : Int32} {mabove : Int64} {mbelow : Int64} {mitems : Int32} {mat : Int32} {mfault : Int32} {mtakes : Int32} {mmisses : Int64} {mbest : Int64} {mh : Int64} {x1 : Int32} {x2 : Int32} {x3 : Int32}  {q : Int32 × (Nat → Int32)} (hn : 110 ≤ n) (e_model : en 100 = .inr (8, [.ref (ad 101), .ref (ad 102), .ref (ad 103), .ref (ad 104), .int mtexted, .int mundo, .long mabove, .long mbelow, .ref (ad 105), .ref (ad 106), .ref (ad 107), .ref (ad 108), .int mitems, .int mat, .int mfault, .int mtakes, .long mmisses, .long mbest, .ref (ad 109), .long mh])) (e_mwarr : en 101 = .inl (cs 1, 960, .inl (mw))) (h : f_X11_oneQuestion mw x1 x2 x3 = some q) : Met l yX11_oneQuestion wsX11_oneQuestion { frames := 1, cells := 0, slots := 0, locals := 25 } (va_Pc [.ref (ad 100), .int x1, .int x2, .int x3] (Wd D cs sa n ad A en)) (va_Qi (fun r u => q.1 = r ∧ u 101 = .inl (cs 1, 960, .inl (q.2)) ∧ (∀ j, (j < 101 ∨ 102 ≤ j) → u j = en j)) (Wd D cs sa n ad A) A) 0 0 A := by
  refine G_startI cX11_oneQuestion 5 [(0, .ref (ad 100)), (1, .int x1), (2, .int x2), (3, .int x3)] (by decide) rfl (Nat.le_of_ble_eq_true rfl) rfl ?_
  intro p e s m args below meth c Q hC hnm Kr
  have inX11 : ∀ w ∈ u_ws RX11 TX11 20, w ∈ wsX11_oneQuestion := by decide +kernel
  have k67 : Cond.constantLong RX11 67 (9) ∈ wsX11_oneQuestion := by decide +kernel
  have k77 : Cond.constantLong RX11 77 (4) ∈ wsX11_oneQuestion := by decide +kernel
  have m7 : Cond.fieldLink RX11 7 "TongueTipModel" "w" "[I" ∈ wsX11_oneQuestion := by decide +kernel
  unfold f_X11_oneQuestion at h
  have hfr : ∀ j, (j < 101 ∨ 102 ≤ j) → en j = en j := fun _ _ => rfl
  refine G_iload_n hC 2 2 rfl rfl dX11_oneQuestion_0 ?_
  refine G_i2l hC dX11_oneQuestion_1 ?_
  refine G_lconst hC (v := 0) (by decide) dX11_oneQuestion_2 ?_
  refine G_ldc2 hC (v := (4)) k77 dX11_oneQuestion_3 ?_
  obtain ⟨q6, h6, h⟩ := bnd h
  refine G_cSi (st := []) hC _ (c_X11_in  l  h6) (va_cwS 3 hC.hts gX11_oneQuestion_X11_in rfl rfl rfl (by decide +kernel) ⟨Nat.le_of_ble_eq_true rfl, Nat.le_of_ble_eq_true rfl⟩) rfl (Nat.le_of_ble_eq_true rfl) (Nat.zero_le _) (Nat.zero_le _) rfl dX11_oneQuestion_6 (fun r6 enx hw => ?_)
  obtain ⟨rfl, rfl⟩ := hw
  refine G_if_eq hC 24 dX11_oneQuestion_9 (by decide) (fun c9 => ?_) (fun c9 => ?_)
  · have h := ifp c9 h
    refine G_bipush hC (v := (-2)) (by decide) dX11_oneQuestion_24 ?_
    have h := Option.some.inj h
    subst h
    exact Kr _ _ _ _ (nar_i _) ⟨rfl, e_mwarr, hfr⟩ dX11_oneQuestion_26
  have h := ifn c9 h
  refine G_iload_n hC 3 3 rfl rfl dX11_oneQuestion_12 ?_
  refine G_i2l hC dX11_oneQuestion_13 ?_
  refine G_lconst hC (v := 0) (by decide) dX11_oneQuestion_14 ?_
  refine G_ldc2 hC (v := (9)) k67 dX11_oneQuestion_15 ?_
  obtain ⟨q18, h18, h⟩ := bnd h
  refine G_cSi (st := []) hC _ (c_X11_in  l  h18) (va_cwS 3 hC.hts gX11_oneQuestion_X11_in rfl rfl rfl (by decide +kernel) ⟨Nat.le_of_ble_eq_true rfl, Nat.le_of_ble_eq_true rfl⟩) rfl (Nat.le_of_ble_eq_true rfl) (Nat.zero_le _) (Nat.zero_le _) rfl dX11_oneQuestion_18 (fun r18 enx hw => ?_)
  obtain ⟨rfl, rfl⟩ := hw
  refine G_if_ne hC 27 dX11_oneQuestion_21 (by decide) (fun c21 => ?_) (fun c21 => ?_)
  · have h := ifn c21 h
    refine G_aload_n hC 0 0 rfl rfl dX11_oneQuestion_27 ?_
    refine G_get hC inX11 100 (by omega) (v := .ref (ad 101)) e_model rfl 0 (by decide) m7 rfl rfl dX11_oneQuestion_28 ?_
    refine G_iload_n hC 1 1 rfl rfl dX11_oneQuestion_31 ?_
    refine G_bipush hC (v := 89) (by decide) dX11_oneQuestion_32 ?_
    refine G_iadd hC dX11_oneQuestion_34 ?_
    obtain ⟨g35, h⟩ := asn h
    refine G_iald hC 101 (by omega) e_mwarr g35 dX11_oneQuestion_35 ?_
    refine G_istore hC 4 [(4, .int (mw (x1 + (89 : Int32)).toNatClampNeg)), (0, .ref (ad 100)), (1, .int x1), (2, .int x2), (3, .int x3)] (by decide) rfl dX11_oneQuestion_36 ?_
    refine G_iload hC 4 0 rfl dX11_oneQuestion_38 ?_
    refine G_bipush hC (v := 6) (by decide) dX11_oneQuestion_40 ?_
    refine G_icmp_ne hC 48 dX11_oneQuestion_42 (by decide) (fun c42 => ?_) (fun c42 => ?_)
    · have h := ifn c42 h
      refine G_aload_n hC 0 1 rfl rfl dX11_oneQuestion_48 ?_
      refine G_get hC inX11 100 (by omega) (v := .ref (ad 101)) e_model rfl 0 (by decide) m7 rfl rfl dX11_oneQuestion_49 ?_
      refine G_iload_n hC 1 2 rfl rfl dX11_oneQuestion_52 ?_
      refine G_bipush hC (v := 90) (by decide) dX11_oneQuestion_53 ?_
      refine G_iadd hC dX11_oneQuestion_55 ?_
      refine G_iload hC 4 0 rfl dX11_oneQuestion_56 ?_
      refine G_iadd hC dX11_oneQuestion_58 ?_
      refine G_iload_n hC 2 3 rfl rfl dX11_oneQuestion_59 ?_
      obtain ⟨g60, h⟩ := asn h
      refine G_iast hC 101 (by omega) e_mwarr g60 dX11_oneQuestion_60 (fun en2 e_mwarr fr => ?_)
      have e_mwarr : en2 101 = .inl (cs 1, 960, .inl (upd mw ((x1 + (90 : Int32)) + (mw (x1 + (89 : Int32)).toNatClampNeg)).toNatClampNeg x2)) := e_mwarr
      have e_model := (fr 100 (by omega)).trans e_model
      have hfr : ∀ j, (j < 101 ∨ 102 ≤ j) → en2 j = en j := fun j o0 => (fr j (by omega)).trans (hfr j o0)
      refine G_aload_n hC 0 1 rfl rfl dX11_oneQuestion_61 ?_
      refine G_get hC inX11 100 (by omega) (v := .ref (ad 101)) e_model rfl 0 (by decide) m7 rfl rfl dX11_oneQuestion_62 ?_
      refine G_iload_n hC 1 2 rfl rfl dX11_oneQuestion_65 ?_
      refine G_bipush hC (v := 96) (by decide) dX11_oneQuestion_66 ?_
      refine G_iadd hC dX11_oneQuestion_68 ?_
      refine G_iload hC 4 0 rfl dX11_oneQuestion_69 ?_
      refine G_iadd hC dX11_oneQuestion_71 ?_
      refine G_iload_n hC 3 4 rfl rfl dX11_oneQuestion_72 ?_
      obtain ⟨g73, h⟩ := asn h
      refine G_iast hC 101 (by omega) e_mwarr g73 dX11_oneQuestion_73 (fun en3 e_mwarr fr => ?_)
      have e_mwarr : en3 101 = .inl (cs 1, 960, .inl (upd (upd mw ((x1 + (90 : Int32)) + (mw (x1 + (89 : Int32)).toNatClampNeg)).toNatClampNeg x2) ((x1 + (96 : Int32)) + (mw (x1 + (89 : Int32)).toNatClampNeg)).toNatClampNeg x3)) := e_mwarr
      have e_model := (fr 100 (by omega)).trans e_model
      have hfr : ∀ j, (j < 101 ∨ 102 ≤ j) → en3 j = en j := fun j o0 => (fr j (by omega)).trans (hfr j o0)
      refine G_aload_n hC 0 1 rfl rfl dX11_oneQuestion_74 ?_
      refine G_get hC inX11 100 (by omega) (v := .ref (ad 101)) e_model rfl 0 (by decide) m7 rfl rfl dX11_oneQuestion_75 ?_
      refine G_iload_n hC 1 2 rfl rfl dX11_oneQuestion_78 ?_
      refine G_bipush hC (v := 89) (by decide) dX11_oneQuestion_79 ?_
      refine G_iadd hC dX11_oneQuestion_81 ?_
      refine G_dup2_11 hC rfl rfl dX11_oneQuestion_82 ?_
      obtain ⟨g83, h⟩ := asn h
      refine G_iald hC 101 (by omega) e_mwarr g83 dX11_oneQuestion_83 ?_
      refine G_iconst hC (v := 1) (by decide) dX11_oneQuestion_84 ?_
      refine G_iadd hC dX11_oneQuestion_85 ?_
      obtain ⟨g86, h⟩ := asn h
      refine G_iast hC 101 (by omega) e_mwarr g86 dX11_oneQuestion_86 (fun en4 e_mwarr fr => ?_)
      have e_mwarr : en4 101 = .inl (cs 1, 960, .inl (upd (upd (upd mw ((x1 + (90 : Int32)) + (mw (x1 + (89 : Int32)).toNatClampNeg)).toNatClampNeg x2) ((x1 + (96 : Int32)) + (mw (x1 + (89 : Int32)).toNatClampNeg)).toNatClampNeg x3) (x1 + (89 : Int32)).toNatClampNeg (((upd (upd mw ((x1 + (90 : Int32)) + (mw (x1 + (89 : Int32)).toNatClampNeg)).toNatClampNeg x2) ((x1 + (96 : Int32)) + (mw (x1 + (89 : Int32)).toNatClampNeg)).toNatClampNeg x3) (x1 + (89 : Int32)).toNatClampNeg) + (1 : Int32)))) := e_mwarr
      have e_model := (fr 100 (by omega)).trans e_model
      have hfr : ∀ j, (j < 101 ∨ 102 ≤ j) → en4 j = en j := fun j o0 => (fr j (by omega)).trans (hfr j o0)
      refine G_iload hC 4 0 rfl dX11_oneQuestion_87 ?_
      have h := Option.some.inj h
      subst h
      exact Kr _ _ _ _ (nar_i _) ⟨rfl, e_mwarr, hfr⟩ dX11_oneQuestion_89
    have h := ifp c42 h
    refine G_bipush hC (v := (-4)) (by decide) dX11_oneQuestion_45 ?_
    have h := Option.some.inj h
    subst h
    exact Kr _ _ _ _ (nar_i _) ⟨rfl, e_mwarr, hfr⟩ dX11_oneQuestion_47
  have h := ifp c21 h
  refine G_bipush hC (v := (-2)) (by decide) dX11_oneQuestion_24 ?_
  have h := Option.some.inj h
  subst h
  exact Kr _ _ _ _ (nar_i _) ⟨rfl, e_mwarr, hfr⟩ dX11_oneQuestion_26
def f_X11_one (mw : Nat → Int32) (mnames : Nat → Int64) (mrefused : Nat → Int32) (x1 : Int64) (x3 : Int32) (x4 : Int32) (x5 : Int32) (x6 : Int32) (x7 : Int32) : Option (Int32 × (Nat → Int32) × (Nat → Int64) × (Nat → Int32)) := Option.bind (f_X11_addOne mw mnames (0 : Int32) x1 x3 x4 x5 x6 x7) (fun q13 => Option.bind (f_X11_told mrefused q13.1) (fun q16 => some (q16.1, q13.2.1, q13.2.2, q16.2)))
set_option maxHeartbeats 4000000 in
set_option maxRecDepth 100000 in
theorem c_X11_one {D : va_G} {cs : Nat → ClassId} {sa : Nat → Nat} {n : Nat} {ad : Nat → Nat} {A : Nat → Prop} (l : Launch) {en : Nat → va_E}  {mw : Nat → Int32} {mnames : Nat → Int64} {mtexted : Int32} {mundo : Int32} {mabove : Int64} {mbelow : Int64} {mrefused : Nat → Int32} {mitems : Int32} {mat : Int32} {mfault : Int32} {mtakes : Int32} {mmisses : Int64} {mbest : Int64} {mh : Int64} {x1 : Int64} {x3 : Int32} {x4 : Int32} {x5 : Int32} {x6 : Int32} {x7 : Int32}  {q : Int32 × (Nat → Int32) × (Nat → Int64) × (Nat → Int32)} (hn : 110 ≤ n) (e_model : en 100 = .inr (8, [.ref (ad 101), .ref (ad 102), .ref (ad 103), .ref (ad 104), .int mtexted, .int mundo, .long mabove, .long mbelow, .ref (ad 105), .ref (ad 106), .ref (ad 107), .ref (ad 108), .int mitems, .int mat, .int mfault, .int mtakes, .long mmisses, .long mbest, .ref (ad 109), .long mh])) (e_mwarr : en 101 = .inl (cs 1, 960, .inl (mw))) (e_mnamesarr : en 102 = .inl (cs 2, 96, .inr (.inl (mnames)))) (e_mrefusedarr : en 105 = .inl (cs 1, 3, .inl (mrefused))) (h : f_X11_one mw mnames mrefused x1 x3 x4 x5 x6 x7 = some q) : Met l yX11_one wsX11_one { frames := 3, cells := 0, slots := 0, locals := 78 } (va_Pc [.ref (ad 100), .long x1, .int x3, .int x4, .int x5, .int x6, .int x7] (Wd D cs sa n ad A en)) (va_Qi (fun r u => q.1 = r ∧ u 101 = .inl (cs 1, 960, .inl (q.2.1)) ∧ u 102 = .inl (cs 2, 96, .inr (.inl (q.2.2.1))) ∧ u 105 = .inl (cs 1, 3, .inl (q.2.2.2)) ∧ (∀ j, (j < 101 ∨ 102 ≤ j) → (j < 102 ∨ 103 ≤ j) → (j < 105 ∨ 106 ≤ j) → u j = en j)) (Wd D cs sa n ad A) A) 0 0 A := by
  refine G_startI cX11_one 8 [(0, .ref (ad 100)), (1, .long x1), (3, .int x3), (4, .int x4), (5, .int x5), (6, .int x6), (7, .int x7)] (by decide) rfl (Nat.le_of_ble_eq_true rfl) rfl ?_
  intro p e s m args below meth c Q hC hnm Kr
  unfold f_X11_one at h
  have hfr : ∀ j, (j < 101 ∨ 102 ≤ j) → (j < 102 ∨ 103 ≤ j) → (j < 105 ∨ 106 ≤ j) → en j = en j := fun _ _ _ _ => rfl
  refine G_aload_n hC 0 0 rfl rfl dX11_one_0 ?_
  refine G_aload_n hC 0 0 rfl rfl dX11_one_1 ?_
  refine G_iconst hC (v := 0) (by decide) dX11_one_2 ?_
  refine G_lload_n hC 1 1 rfl rfl dX11_one_3 ?_
  refine G_iload_n hC 3 2 rfl rfl dX11_one_4 ?_
  refine G_iload hC 4 3 rfl dX11_one_5 ?_
  refine G_iload hC 5 4 rfl dX11_one_7 ?_
  refine G_iload hC 6 5 rfl dX11_one_9 ?_
  refine G_iload hC 7 6 rfl dX11_one_11 ?_
  obtain ⟨q13, h13, h⟩ := bnd h
  refine G_cVi (st := [.ref (ad 100)]) hC _ 100 (by omega) (c_X11_addOne  l (by omega) e_model e_mwarr e_mnamesarr h13) (cwV 7 hC.hts gX11_one_X11_addOne rfl rfl rfl (by decide +kernel) ⟨Nat.le_of_ble_eq_true rfl, Nat.le_of_ble_eq_true rfl⟩) e_model rfl rfl (Nat.le_of_ble_eq_true rfl) (Nat.zero_le _) (Nat.zero_le _) rfl dX11_one_13 (fun r13 en2 hw => ?_)
  obtain ⟨rfl, e_mwarr, e_mnamesarr, fr⟩ := hw
  have e_model := (fr 100 (by omega) (by omega)).trans e_model
  have e_mrefusedarr := (fr 105 (by omega) (by omega)).trans e_mrefusedarr
  have hfr : ∀ j, (j < 101 ∨ 102 ≤ j) → (j < 102 ∨ 103 ≤ j) → (j < 105 ∨ 106 ≤ j) → en2 j = en j := fun j o0 o1 o2 => (fr j (by omega) (by omega)).trans (hfr j o0 o1 o2)
  obtain ⟨q16, h16, h⟩ := bnd h
  refine G_cVi (st := []) hC _ 100 (by omega) (c_X11_told  l (by omega) e_model e_mrefusedarr h16) (cwV 1 hC.hts gX11_one_X11_told rfl rfl rfl (by decide +kernel) ⟨Nat.le_of_ble_eq_true rfl, Nat.le_of_ble_eq_true rfl⟩) e_model rfl rfl (Nat.le_of_ble_eq_true rfl) (Nat.zero_le _) (Nat.zero_le _) rfl dX11_one_16 (fun r16 en3 hw => ?_)
  obtain ⟨rfl, e_mrefusedarr, fr⟩ := hw
  have e_model := (fr 100 (by omega)).trans e_model
  have e_mwarr := (fr 101 (by omega)).trans e_mwarr
  have e_mnamesarr := (fr 102 (by omega)).trans e_mnamesarr
  have hfr : ∀ j, (j < 101 ∨ 102 ≤ j) → (j < 102 ∨ 103 ≤ j) → (j < 105 ∨ 106 ≤ j) → en3 j = en j := fun j o0 o1 o2 => (fr j (by omega)).trans (hfr j o0 o1 o2)
  have h := Option.some.inj h
  subst h
  exact Kr _ _ _ _ (nar_i _) ⟨rfl, e_mwarr, e_mnamesarr, e_mrefusedarr, hfr⟩ dX11_one_19
def f_X11_put (mw : Nat → Int32) (mrefused : Nat → Int32) (x1 : Int32) (x2 : Int32) : Option (Int32 × (Nat → Int32) × (Nat → Int32)) := Option.bind (f_X11_set mw (0 : Int32) x1 x2) (fun q5 => Option.bind (f_X11_told mrefused q5.1) (fun q8 => some (q8.1, q5.2, q8.2)))
set_option maxHeartbeats 4000000 in
set_option maxRecDepth 100000 in
theorem c_X11_put {D : va_G} {cs : Nat → ClassId} {sa : Nat → Nat} {n : Nat} {ad : Nat → Nat} {A : Nat → Prop} (l : Launch) {en : Nat → va_E}  {mw : Nat → Int32} {mtexted : Int32} {mundo : Int32} {mabove : Int64} {mbelow : Int64} {mrefused : Nat → Int32} {mitems : Int32} {mat : Int32} {mfault : Int32} {mtakes : Int32} {mmisses : Int64} {mbest : Int64} {mh : Int64} {x1 : Int32} {x2 : Int32}  {q : Int32 × (Nat → Int32) × (Nat → Int32)} (hn : 110 ≤ n) (e_model : en 100 = .inr (8, [.ref (ad 101), .ref (ad 102), .ref (ad 103), .ref (ad 104), .int mtexted, .int mundo, .long mabove, .long mbelow, .ref (ad 105), .ref (ad 106), .ref (ad 107), .ref (ad 108), .int mitems, .int mat, .int mfault, .int mtakes, .long mmisses, .long mbest, .ref (ad 109), .long mh])) (e_mwarr : en 101 = .inl (cs 1, 960, .inl (mw))) (e_mrefusedarr : en 105 = .inl (cs 1, 3, .inl (mrefused))) (h : f_X11_put mw mrefused x1 x2 = some q) : Met l yX11_put wsX11_put { frames := 2, cells := 0, slots := 0, locals := 50 } (va_Pc [.ref (ad 100), .int x1, .int x2] (Wd D cs sa n ad A en)) (va_Qi (fun r u => q.1 = r ∧ u 101 = .inl (cs 1, 960, .inl (q.2.1)) ∧ u 105 = .inl (cs 1, 3, .inl (q.2.2)) ∧ (∀ j, (j < 101 ∨ 102 ≤ j) → (j < 105 ∨ 106 ≤ j) → u j = en j)) (Wd D cs sa n ad A) A) 0 0 A := by
  refine G_startI cX11_put 3 [(0, .ref (ad 100)), (1, .int x1), (2, .int x2)] (by decide) rfl (Nat.le_of_ble_eq_true rfl) rfl ?_
  intro p e s m args below meth c Q hC hnm Kr
  unfold f_X11_put at h
  have hfr : ∀ j, (j < 101 ∨ 102 ≤ j) → (j < 105 ∨ 106 ≤ j) → en j = en j := fun _ _ _ => rfl
  refine G_aload_n hC 0 0 rfl rfl dX11_put_0 ?_
  refine G_aload_n hC 0 0 rfl rfl dX11_put_1 ?_
  refine G_iconst hC (v := 0) (by decide) dX11_put_2 ?_
  refine G_iload_n hC 1 1 rfl rfl dX11_put_3 ?_
  refine G_iload_n hC 2 2 rfl rfl dX11_put_4 ?_
  obtain ⟨q5, h5, h⟩ := bnd h
  refine G_cVi (st := [.ref (ad 100)]) hC _ 100 (by omega) (c_X11_set  l (by omega) e_model e_mwarr h5) (cwV 3 hC.hts gX11_put_X11_set rfl rfl rfl (by decide +kernel) ⟨Nat.le_of_ble_eq_true rfl, Nat.le_of_ble_eq_true rfl⟩) e_model rfl rfl (Nat.le_of_ble_eq_true rfl) (Nat.zero_le _) (Nat.zero_le _) rfl dX11_put_5 (fun r5 en2 hw => ?_)
  obtain ⟨rfl, e_mwarr, fr⟩ := hw
  have e_model := (fr 100 (by omega)).trans e_model
  have e_mrefusedarr := (fr 105 (by omega)).trans e_mrefusedarr
  have hfr : ∀ j, (j < 101 ∨ 102 ≤ j) → (j < 105 ∨ 106 ≤ j) → en2 j = en j := fun j o0 o1 => (fr j (by omega)).trans (hfr j o0 o1)
  obtain ⟨q8, h8, h⟩ := bnd h
  refine G_cVi (st := []) hC _ 100 (by omega) (c_X11_told  l (by omega) e_model e_mrefusedarr h8) (cwV 1 hC.hts gX11_put_X11_told rfl rfl rfl (by decide +kernel) ⟨Nat.le_of_ble_eq_true rfl, Nat.le_of_ble_eq_true rfl⟩) e_model rfl rfl (Nat.le_of_ble_eq_true rfl) (Nat.zero_le _) (Nat.zero_le _) rfl dX11_put_8 (fun r8 en3 hw => ?_)
  obtain ⟨rfl, e_mrefusedarr, fr⟩ := hw
  have e_model := (fr 100 (by omega)).trans e_model
  have e_mwarr := (fr 101 (by omega)).trans e_mwarr
  have hfr : ∀ j, (j < 101 ∨ 102 ≤ j) → (j < 105 ∨ 106 ≤ j) → en3 j = en j := fun j o0 o1 => (fr j (by omega)).trans (hfr j o0 o1)
  have h := Option.some.inj h
  subst h
  exact Kr _ _ _ _ (nar_i _) ⟨rfl, e_mwarr, e_mrefusedarr, hfr⟩ dX11_put_11
def f_X11_addTry (mw : Nat → Int32) (mrefused : Nat → Int32) (x1 : Int32) (x2 : Int32) (x3 : Int32) : Option (Int32 × (Nat → Int32) × (Nat → Int32)) := Option.bind (f_X11_oneTry mw (0 : Int32) x1 x2 x3) (fun q6 => Option.bind (f_X11_told mrefused q6.1) (fun q9 => some (q9.1, q6.2, q9.2)))
set_option maxHeartbeats 4000000 in
set_option maxRecDepth 100000 in
theorem c_X11_addTry {D : va_G} {cs : Nat → ClassId} {sa : Nat → Nat} {n : Nat} {ad : Nat → Nat} {A : Nat → Prop} (l : Launch) {en : Nat → va_E}  {mw : Nat → Int32} {mtexted : Int32} {mundo : Int32} {mabove : Int64} {mbelow : Int64} {mrefused : Nat → Int32} {mitems : Int32} {mat : Int32} {mfault : Int32} {mtakes : Int32} {mmisses : Int64} {mbest : Int64} {mh : Int64} {x1 : Int32} {x2 : Int32} {x3 : Int32}  {q : Int32 × (Nat → Int32) × (Nat → Int32)} (hn : 110 ≤ n) (e_model : en 100 = .inr (8, [.ref (ad 101), .ref (ad 102), .ref (ad 103), .ref (ad 104), .int mtexted, .int mundo, .long mabove, .long mbelow, .ref (ad 105), .ref (ad 106), .ref (ad 107), .ref (ad 108), .int mitems, .int mat, .int mfault, .int mtakes, .long mmisses, .long mbest, .ref (ad 109), .long mh])) (e_mwarr : en 101 = .inl (cs 1, 960, .inl (mw))) (e_mrefusedarr : en 105 = .inl (cs 1, 3, .inl (mrefused))) (h : f_X11_addTry mw mrefused x1 x2 x3 = some q) : Met l yX11_addTry wsX11_addTry { frames := 2, cells := 0, slots := 0, locals := 50 } (va_Pc [.ref (ad 100), .int x1, .int x2, .int x3] (Wd D cs sa n ad A en)) (va_Qi (fun r u => q.1 = r ∧ u 101 = .inl (cs 1, 960, .inl (q.2.1)) ∧ u 105 = .inl (cs 1, 3, .inl (q.2.2)) ∧ (∀ j, (j < 101 ∨ 102 ≤ j) → (j < 105 ∨ 106 ≤ j) → u j = en j)) (Wd D cs sa n ad A) A) 0 0 A := by
  refine G_startI cX11_addTry 4 [(0, .ref (ad 100)), (1, .int x1), (2, .int x2), (3, .int x3)] (by decide) rfl (Nat.le_of_ble_eq_true rfl) rfl ?_
  intro p e s m args below meth c Q hC hnm Kr
  unfold f_X11_addTry at h
  have hfr : ∀ j, (j < 101 ∨ 102 ≤ j) → (j < 105 ∨ 106 ≤ j) → en j = en j := fun _ _ _ => rfl
  refine G_aload_n hC 0 0 rfl rfl dX11_addTry_0 ?_
  refine G_aload_n hC 0 0 rfl rfl dX11_addTry_1 ?_
  refine G_iconst hC (v := 0) (by decide) dX11_addTry_2 ?_
  refine G_iload_n hC 1 1 rfl rfl dX11_addTry_3 ?_
  refine G_iload_n hC 2 2 rfl rfl dX11_addTry_4 ?_
  refine G_iload_n hC 3 3 rfl rfl dX11_addTry_5 ?_
  obtain ⟨q6, h6, h⟩ := bnd h
  refine G_cVi (st := [.ref (ad 100)]) hC _ 100 (by omega) (c_X11_oneTry  l (by omega) e_model e_mwarr h6) (cwV 4 hC.hts gX11_addTry_X11_oneTry rfl rfl rfl (by decide +kernel) ⟨Nat.le_of_ble_eq_true rfl, Nat.le_of_ble_eq_true rfl⟩) e_model rfl rfl (Nat.le_of_ble_eq_true rfl) (Nat.zero_le _) (Nat.zero_le _) rfl dX11_addTry_6 (fun r6 en2 hw => ?_)
  obtain ⟨rfl, e_mwarr, fr⟩ := hw
  have e_model := (fr 100 (by omega)).trans e_model
  have e_mrefusedarr := (fr 105 (by omega)).trans e_mrefusedarr
  have hfr : ∀ j, (j < 101 ∨ 102 ≤ j) → (j < 105 ∨ 106 ≤ j) → en2 j = en j := fun j o0 o1 => (fr j (by omega)).trans (hfr j o0 o1)
  obtain ⟨q9, h9, h⟩ := bnd h
  refine G_cVi (st := []) hC _ 100 (by omega) (c_X11_told  l (by omega) e_model e_mrefusedarr h9) (cwV 1 hC.hts gX11_addTry_X11_told rfl rfl rfl (by decide +kernel) ⟨Nat.le_of_ble_eq_true rfl, Nat.le_of_ble_eq_true rfl⟩) e_model rfl rfl (Nat.le_of_ble_eq_true rfl) (Nat.zero_le _) (Nat.zero_le _) rfl dX11_addTry_9 (fun r9 en3 hw => ?_)
  obtain ⟨rfl, e_mrefusedarr, fr⟩ := hw
  have e_model := (fr 100 (by omega)).trans e_model
  have e_mwarr := (fr 101 (by omega)).trans e_mwarr
  have hfr : ∀ j, (j < 101 ∨ 102 ≤ j) → (j < 105 ∨ 106 ≤ j) → en3 j = en j := fun j o0 o1 => (fr j (by omega)).trans (hfr j o0 o1)
  have h := Option.some.inj h
  subst h
  exact Kr _ _ _ _ (nar_i _) ⟨rfl, e_mwarr, e_mrefusedarr, hfr⟩ dX11_addTry_12
def f_X11_heldOn_B38 (mw : Nat → Int32)  (s0 : Int32) (s1 : Int32) : Option (Int32) := if s0 - s1 ≤ 0 then (some (0 : Int32)) else (some (s0 - s1))
def f_X11_heldOn (mw : Nat → Int32) (x1 : Int32) (x2 : Int32) : Option (Int32) := if (61 : Int32) + x1 < 0 ∨ 960 ≤ ((61 : Int32) + x1).toNatClampNeg then none else (if (37 : Int32) + x1 < 0 ∨ 960 ≤ ((37 : Int32) + x1).toNatClampNeg then none else (if x2 - (mw ((61 : Int32) + x1).toNatClampNeg) ≤ 0 then (f_X11_heldOn_B38 mw (mw ((37 : Int32) + x1).toNatClampNeg) (0 : Int32)) else (if (103 : Int32) < 0 ∨ 960 ≤ (103 : Int32).toNatClampNeg then none else (if mw (103 : Int32).toNatClampNeg = 0 then none else (f_X11_heldOn_B38 mw (mw ((37 : Int32) + x1).toNatClampNeg) ((x2 - (mw ((61 : Int32) + x1).toNatClampNeg)) / (mw (103 : Int32).toNatClampNeg)))))))
set_option maxHeartbeats 4000000 in
set_option maxRecDepth 100000 in
theorem c_X11_heldOn {D : va_G} {cs : Nat → ClassId} {sa : Nat → Nat} {n : Nat} {ad : Nat → Nat} {A : Nat → Prop} (l : Launch) {en : Nat → va_E}  {mw : Nat → Int32} {mtexted : Int32} {mundo : Int32} {mabove : Int64} {mbelow : Int64} {mitems : Int32} {mat : Int32} {mfault : Int32} {mtakes : Int32} {mmisses : Int64} {mbest : Int64} {mh : Int64} {x1 : Int32} {x2 : Int32}  {q : Int32} (hn : 110 ≤ n) (e_model : en 100 = .inr (8, [.ref (ad 101), .ref (ad 102), .ref (ad 103), .ref (ad 104), .int mtexted, .int mundo, .long mabove, .long mbelow, .ref (ad 105), .ref (ad 106), .ref (ad 107), .ref (ad 108), .int mitems, .int mat, .int mfault, .int mtakes, .long mmisses, .long mbest, .ref (ad 109), .long mh])) (e_mwarr : en 101 = .inl (cs 1, 960, .inl (mw))) (h : f_X11_heldOn mw x1 x2 = some q) : Met l yX11_heldOn wsX11_heldOn { frames := 0, cells := 0, slots := 0, locals := 0 } (va_Pc [.ref (ad 100), .int x1, .int x2] (Wd D cs sa n ad A en)) (va_Qi (fun r u => q = r ∧ en = u) (Wd D cs sa n ad A) A) 0 0 A := by
  refine G_startI cX11_heldOn 5 [(0, .ref (ad 100)), (1, .int x1), (2, .int x2)] (by decide) rfl (Nat.le_of_ble_eq_true rfl) rfl ?_
  intro p e s m args below meth c Q hC hnm Kr
  have inX11 : ∀ w ∈ u_ws RX11 TX11 20, w ∈ wsX11_heldOn := by decide +kernel
  have m7 : Cond.fieldLink RX11 7 "TongueTipModel" "w" "[I" ∈ wsX11_heldOn := by decide +kernel
  have hB38 : ∀ (s0 : Int32) (s1 : Int32), f_X11_heldOn_B38 mw s0 s1 = some q → G p l e ({ frames := 0, cells := 0, slots := 0, locals := 0 } : Room) s m args below meth c D n ad A 5 0 0 Q en 38 [] [.int s1, .int s0] := by
    intro s0 s1 h
    unfold f_X11_heldOn_B38 at h
    refine G_isub hC dX11_heldOn_38 ?_
    refine G_istore hC 4 [(4, .int (s0 - s1))] (by decide) rfl dX11_heldOn_39 ?_
    refine G_iload hC 4 0 rfl dX11_heldOn_41 ?_
    refine G_if_le hC 51 dX11_heldOn_43 (by decide) (fun c43 => ?_) (fun c43 => ?_)
    · have h := ifp c43 h
      refine G_iconst hC (v := 0) (by decide) dX11_heldOn_51 ?_
      have h := Option.some.inj h
      subst h
      exact Kr _ _ _ _ (nar_i _) ⟨rfl, rfl⟩ dX11_heldOn_52
    have h := ifn c43 h
    refine G_iload hC 4 0 rfl dX11_heldOn_46 ?_
    refine G_goto hC 52 dX11_heldOn_48 (by decide) ?_
    have h := Option.some.inj h
    subst h
    exact Kr _ _ _ _ (nar_i _) ⟨rfl, rfl⟩ dX11_heldOn_52
  unfold f_X11_heldOn at h
  refine G_iload_n hC 2 2 rfl rfl dX11_heldOn_0 ?_
  refine G_aload_n hC 0 0 rfl rfl dX11_heldOn_1 ?_
  refine G_get hC inX11 100 (by omega) (v := .ref (ad 101)) e_model rfl 0 (by decide) m7 rfl rfl dX11_heldOn_2 ?_
  refine G_bipush hC (v := 61) (by decide) dX11_heldOn_5 ?_
  refine G_iload_n hC 1 1 rfl rfl dX11_heldOn_7 ?_
  refine G_iadd hC dX11_heldOn_8 ?_
  obtain ⟨g9, h⟩ := asn h
  refine G_iald hC 101 (by omega) e_mwarr g9 dX11_heldOn_9 ?_
  refine G_isub hC dX11_heldOn_10 ?_
  refine G_istore_n hC 3 [(3, .int (x2 - (mw ((61 : Int32) + x1).toNatClampNeg))), (0, .ref (ad 100)), (1, .int x1), (2, .int x2)] rfl (by decide) rfl dX11_heldOn_11 ?_
  refine G_aload_n hC 0 1 rfl rfl dX11_heldOn_12 ?_
  refine G_get hC inX11 100 (by omega) (v := .ref (ad 101)) e_model rfl 0 (by decide) m7 rfl rfl dX11_heldOn_13 ?_
  refine G_bipush hC (v := 37) (by decide) dX11_heldOn_16 ?_
  refine G_iload_n hC 1 2 rfl rfl dX11_heldOn_18 ?_
  refine G_iadd hC dX11_heldOn_19 ?_
  obtain ⟨g20, h⟩ := asn h
  refine G_iald hC 101 (by omega) e_mwarr g20 dX11_heldOn_20 ?_
  refine G_iload_n hC 3 0 rfl rfl dX11_heldOn_21 ?_
  refine G_if_le hC 37 dX11_heldOn_22 (by decide) (fun c22 => ?_) (fun c22 => ?_)
  · have h := ifp c22 h
    refine G_iconst hC (v := 0) (by decide) dX11_heldOn_37 ?_
    refine G_lv [] rfl ?_
    exact hB38 _ _ h
  have h := ifn c22 h
  refine G_iload_n hC 3 0 rfl rfl dX11_heldOn_25 ?_
  refine G_aload_n hC 0 1 rfl rfl dX11_heldOn_26 ?_
  refine G_get hC inX11 100 (by omega) (v := .ref (ad 101)) e_model rfl 0 (by decide) m7 rfl rfl dX11_heldOn_27 ?_
  refine G_bipush hC (v := 103) (by decide) dX11_heldOn_30 ?_
  obtain ⟨g32, h⟩ := asn h
  refine G_iald hC 101 (by omega) e_mwarr g32 dX11_heldOn_32 ?_
  obtain ⟨g33, h⟩ := asn h
  refine G_idiv hC g33 dX11_heldOn_33 ?_
  refine G_goto hC 38 dX11_heldOn_34 (by decide) ?_
  refine G_lv [] rfl ?_
  exact hB38 _ _ h
def f_X11_heldNow (mw : Nat → Int32) (x1 : Int32) : Option (Int32) := if (115 : Int32) < 0 ∨ 960 ≤ (115 : Int32).toNatClampNeg then none else (Option.bind (f_X11_heldOn mw x1 (mw (115 : Int32).toNatClampNeg)) (fun q9 => some q9))
set_option maxHeartbeats 4000000 in
set_option maxRecDepth 100000 in
theorem c_X11_heldNow {D : va_G} {cs : Nat → ClassId} {sa : Nat → Nat} {n : Nat} {ad : Nat → Nat} {A : Nat → Prop} (l : Launch) {en : Nat → va_E}  {mw : Nat → Int32} {mtexted : Int32} {mundo : Int32} {mabove : Int64} {mbelow : Int64} {mitems : Int32} {mat : Int32} {mfault : Int32} {mtakes : Int32} {mmisses : Int64} {mbest : Int64} {mh : Int64} {x1 : Int32}  {q : Int32} (hn : 110 ≤ n) (e_model : en 100 = .inr (8, [.ref (ad 101), .ref (ad 102), .ref (ad 103), .ref (ad 104), .int mtexted, .int mundo, .long mabove, .long mbelow, .ref (ad 105), .ref (ad 106), .ref (ad 107), .ref (ad 108), .int mitems, .int mat, .int mfault, .int mtakes, .long mmisses, .long mbest, .ref (ad 109), .long mh])) (e_mwarr : en 101 = .inl (cs 1, 960, .inl (mw))) (h : f_X11_heldNow mw x1 = some q) : Met l yX11_heldNow wsX11_heldNow { frames := 1, cells := 0, slots := 0, locals := 24 } (va_Pc [.ref (ad 100), .int x1] (Wd D cs sa n ad A en)) (va_Qi (fun r u => q = r ∧ en = u) (Wd D cs sa n ad A) A) 0 0 A := by
  refine G_startI cX11_heldNow 2 [(0, .ref (ad 100)), (1, .int x1)] (by decide) rfl (Nat.le_of_ble_eq_true rfl) rfl ?_
  intro p e s m args below meth c Q hC hnm Kr
  have inX11 : ∀ w ∈ u_ws RX11 TX11 20, w ∈ wsX11_heldNow := by decide +kernel
  have m7 : Cond.fieldLink RX11 7 "TongueTipModel" "w" "[I" ∈ wsX11_heldNow := by decide +kernel
  unfold f_X11_heldNow at h
  refine G_aload_n hC 0 0 rfl rfl dX11_heldNow_0 ?_
  refine G_iload_n hC 1 1 rfl rfl dX11_heldNow_1 ?_
  refine G_aload_n hC 0 0 rfl rfl dX11_heldNow_2 ?_
  refine G_get hC inX11 100 (by omega) (v := .ref (ad 101)) e_model rfl 0 (by decide) m7 rfl rfl dX11_heldNow_3 ?_
  refine G_bipush hC (v := 115) (by decide) dX11_heldNow_6 ?_
  obtain ⟨g8, h⟩ := asn h
  refine G_iald hC 101 (by omega) e_mwarr g8 dX11_heldNow_8 ?_
  obtain ⟨q9, h9, h⟩ := bnd h
  refine G_cVi (st := []) hC _ 100 (by omega) (c_X11_heldOn  l (by omega) e_model e_mwarr h9) (cwV 2 hC.hts gX11_heldNow_X11_heldOn rfl rfl rfl (by decide +kernel) ⟨Nat.le_of_ble_eq_true rfl, Nat.le_of_ble_eq_true rfl⟩) e_model rfl rfl (Nat.le_of_ble_eq_true rfl) (Nat.zero_le _) (Nat.zero_le _) rfl dX11_heldNow_9 (fun r9 enx hw => ?_)
  obtain ⟨rfl, rfl⟩ := hw
  have h := Option.some.inj h
  subst h
  exact Kr _ _ _ _ (nar_i _) ⟨rfl, rfl⟩ dX11_heldNow_12
def f_X11_held_B37 (mw : Nat → Int32)  (mrefused : Nat → Int32) : Option (Int32 × (Nat → Int32)) := Option.bind (f_X11_told mrefused (-2 : Int32)) (fun q40 => some (q40.1, q40.2))
def f_X11_held (mw : Nat → Int32) (mrefused : Nat → Int32) (x1 : Int32) (x2 : Int32) : Option (Int32 × (Nat → Int32)) := Option.bind (f_X11_isOne mw x1) (fun q2 => if q2 = 0 then (f_X11_held_B37 mw mrefused) else (Option.bind (f_X11_in x2.toInt64 (0 : Int64) (999 : Int64)) (fun q14 => if q14 = 0 then (f_X11_held_B37 mw mrefused) else (if (115 : Int32) < 0 ∨ 960 ≤ (115 : Int32).toNatClampNeg then none else (Option.bind (f_X11_heldOn mw x1 ((mw (115 : Int32).toNatClampNeg) + x2)) (fun q31 => some (q31, mrefused)))))))
set_option maxHeartbeats 4000000 in
set_option maxRecDepth 100000 in
theorem c_X11_held {D : va_G} {cs : Nat → ClassId} {sa : Nat → Nat} {n : Nat} {ad : Nat → Nat} {A : Nat → Prop} (l : Launch) {en : Nat → va_E}  {mw : Nat → Int32} {mtexted : Int32} {mundo : Int32} {mabove : Int64} {mbelow : Int64} {mrefused : Nat → Int32} {mitems : Int32} {mat : Int32} {mfault : Int32} {mtakes : Int32} {mmisses : Int64} {mbest : Int64} {mh : Int64} {x1 : Int32} {x2 : Int32}  {q : Int32 × (Nat → Int32)} (hn : 110 ≤ n) (e_model : en 100 = .inr (8, [.ref (ad 101), .ref (ad 102), .ref (ad 103), .ref (ad 104), .int mtexted, .int mundo, .long mabove, .long mbelow, .ref (ad 105), .ref (ad 106), .ref (ad 107), .ref (ad 108), .int mitems, .int mat, .int mfault, .int mtakes, .long mmisses, .long mbest, .ref (ad 109), .long mh])) (e_mwarr : en 101 = .inl (cs 1, 960, .inl (mw))) (e_mrefusedarr : en 105 = .inl (cs 1, 3, .inl (mrefused))) (h : f_X11_held mw mrefused x1 x2 = some q) : Met l yX11_held wsX11_held { frames := 2, cells := 0, slots := 0, locals := 46 } (va_Pc [.ref (ad 100), .int x1, .int x2] (Wd D cs sa n ad A en)) (va_Qi (fun r u => q.1 = r ∧ u 105 = .inl (cs 1, 3, .inl (q.2)) ∧ (∀ j, (j < 105 ∨ 106 ≤ j) → u j = en j)) (Wd D cs sa n ad A) A) 0 0 A := by
  refine G_startI cX11_held 3 [(0, .ref (ad 100)), (1, .int x1), (2, .int x2)] (by decide) rfl (Nat.le_of_ble_eq_true rfl) rfl ?_
  intro p e s m args below meth c Q hC hnm Kr
  have inX11 : ∀ w ∈ u_ws RX11 TX11 20, w ∈ wsX11_held := by decide +kernel
  have k103 : Cond.constantLong RX11 103 (999) ∈ wsX11_held := by decide +kernel
  have m7 : Cond.fieldLink RX11 7 "TongueTipModel" "w" "[I" ∈ wsX11_held := by decide +kernel
  have hB37 : ∀ (en1 : Nat → va_E) (mrefused : Nat → Int32), en1 100 = .inr (8, [.ref (ad 101), .ref (ad 102), .ref (ad 103), .ref (ad 104), .int mtexted, .int mundo, .long mabove, .long mbelow, .ref (ad 105), .ref (ad 106), .ref (ad 107), .ref (ad 108), .int mitems, .int mat, .int mfault, .int mtakes, .long mmisses, .long mbest, .ref (ad 109), .long mh]) → en1 101 = .inl (cs 1, 960, .inl (mw)) → en1 105 = .inl (cs 1, 3, .inl (mrefused)) → (∀ j, (j < 105 ∨ 106 ≤ j) → en1 j = en j) → f_X11_held_B37 mw mrefused = some q → G p l e ({ frames := 2, cells := 0, slots := 0, locals := 46 } : Room) s m args below meth c D n ad A 3 0 0 Q en1 37 [(0, .ref (ad 100))] [] := by
    intro en1 mrefused e_model e_mwarr e_mrefusedarr hfr h
    unfold f_X11_held_B37 at h
    refine G_aload_n hC 0 0 rfl rfl dX11_held_37 ?_
    refine G_bipush hC (v := (-2)) (by decide) dX11_held_38 ?_
    obtain ⟨q40, h40, h⟩ := bnd h
    refine G_cVi (st := []) hC _ 100 (by omega) (c_X11_told  l (by omega) e_model e_mrefusedarr h40) (cwV 1 hC.hts gX11_held_X11_told rfl rfl rfl (by decide +kernel) ⟨Nat.le_of_ble_eq_true rfl, Nat.le_of_ble_eq_true rfl⟩) e_model rfl rfl (Nat.le_of_ble_eq_true rfl) (Nat.zero_le _) (Nat.zero_le _) rfl dX11_held_40 (fun r40 en2 hw => ?_)
    obtain ⟨rfl, e_mrefusedarr, fr⟩ := hw
    have e_model := (fr 100 (by omega)).trans e_model
    have e_mwarr := (fr 101 (by omega)).trans e_mwarr
    have hfr : ∀ j, (j < 105 ∨ 106 ≤ j) → en2 j = en j := fun j o0 => (fr j (by omega)).trans (hfr j o0)
    have h := Option.some.inj h
    subst h
    exact Kr _ _ _ _ (nar_i _) ⟨rfl, e_mrefusedarr, hfr⟩ dX11_held_43
  unfold f_X11_held at h
  have hfr : ∀ j, (j < 105 ∨ 106 ≤ j) → en j = en j := fun _ _ => rfl
  refine G_aload_n hC 0 0 rfl rfl dX11_held_0 ?_
  refine G_iload_n hC 1 1 rfl rfl dX11_held_1 ?_
  obtain ⟨q2, h2, h⟩ := bnd h
  refine G_cVi (st := []) hC _ 100 (by omega) (c_X11_isOne  l (by omega) e_model e_mwarr h2) (cwV 1 hC.hts gX11_held_X11_isOne rfl rfl rfl (by decide +kernel) ⟨Nat.le_of_ble_eq_true rfl, Nat.le_of_ble_eq_true rfl⟩) e_model rfl rfl (Nat.le_of_ble_eq_true rfl) (Nat.zero_le _) (Nat.zero_le _) rfl dX11_held_2 (fun r2 enx hw => ?_)
  obtain ⟨rfl, rfl⟩ := hw
  refine G_if_eq hC 37 dX11_held_5 (by decide) (fun c5 => ?_) (fun c5 => ?_)
  · have h := ifp c5 h
    refine G_lv [0] rfl ?_
    exact hB37 _ _ e_model e_mwarr e_mrefusedarr hfr h
  have h := ifn c5 h
  refine G_iload_n hC 2 2 rfl rfl dX11_held_8 ?_
  refine G_i2l hC dX11_held_9 ?_
  refine G_lconst hC (v := 0) (by decide) dX11_held_10 ?_
  refine G_ldc2 hC (v := (999)) k103 dX11_held_11 ?_
  obtain ⟨q14, h14, h⟩ := bnd h
  refine G_cSi (st := []) hC _ (c_X11_in  l  h14) (va_cwS 3 hC.hts gX11_held_X11_in rfl rfl rfl (by decide +kernel) ⟨Nat.le_of_ble_eq_true rfl, Nat.le_of_ble_eq_true rfl⟩) rfl (Nat.le_of_ble_eq_true rfl) (Nat.zero_le _) (Nat.zero_le _) rfl dX11_held_14 (fun r14 enx hw => ?_)
  obtain ⟨rfl, rfl⟩ := hw
  refine G_if_eq hC 37 dX11_held_17 (by decide) (fun c17 => ?_) (fun c17 => ?_)
  · have h := ifp c17 h
    refine G_lv [0] rfl ?_
    exact hB37 _ _ e_model e_mwarr e_mrefusedarr hfr h
  have h := ifn c17 h
  refine G_aload_n hC 0 0 rfl rfl dX11_held_20 ?_
  refine G_iload_n hC 1 1 rfl rfl dX11_held_21 ?_
  refine G_aload_n hC 0 0 rfl rfl dX11_held_22 ?_
  refine G_get hC inX11 100 (by omega) (v := .ref (ad 101)) e_model rfl 0 (by decide) m7 rfl rfl dX11_held_23 ?_
  refine G_bipush hC (v := 115) (by decide) dX11_held_26 ?_
  obtain ⟨g28, h⟩ := asn h
  refine G_iald hC 101 (by omega) e_mwarr g28 dX11_held_28 ?_
  refine G_iload_n hC 2 2 rfl rfl dX11_held_29 ?_
  refine G_iadd hC dX11_held_30 ?_
  obtain ⟨q31, h31, h⟩ := bnd h
  refine G_cVi (st := []) hC _ 100 (by omega) (c_X11_heldOn  l (by omega) e_model e_mwarr h31) (cwV 2 hC.hts gX11_held_X11_heldOn rfl rfl rfl (by decide +kernel) ⟨Nat.le_of_ble_eq_true rfl, Nat.le_of_ble_eq_true rfl⟩) e_model rfl rfl (Nat.le_of_ble_eq_true rfl) (Nat.zero_le _) (Nat.zero_le _) rfl dX11_held_31 (fun r31 enx hw => ?_)
  obtain ⟨rfl, rfl⟩ := hw
  refine G_goto hC 43 dX11_held_34 (by decide) ?_
  have h := Option.some.inj h
  subst h
  exact Kr _ _ _ _ (nar_i _) ⟨rfl, e_mrefusedarr, hfr⟩ dX11_held_43
def f_X11_minds_B53   (mw : Nat → Int32) (mnames : Nat → Int64) (mundo : Int32) : Option ((Nat → Int32) × (Nat → Int64) × Int32) := Option.bind (f_X11_copy mw mnames (0 : Int32) ((480 : Int32) + ((120 : Int32) * mundo))) (fun q66 => some (q66.1, q66.2, mundo + (1 : Int32)))
def f_X11_minds_L10   : Nat → (Nat → Int32) → (Nat → Int64) → Int32 → Int32 → Option ((Nat → Int32) × (Nat → Int64) × Int32)
  | 0, _, _, _, _ => none
  | fu + 1, mw, mnames, mundo, x1 => if (4 : Int32) ≤ x1 then (f_X11_minds_B53 mw mnames (mundo - (1 : Int32))) else (Option.bind (f_X11_copy mw mnames ((480 : Int32) + ((120 : Int32) * x1)) ((480 : Int32) + ((120 : Int32) * (x1 - (1 : Int32))))) (fun q34 => f_X11_minds_L10 fu q34.1 q34.2 mundo (x1 + (1 : Int32))))
def f_X11_minds (mw : Nat → Int32) (mnames : Nat → Int64) (mundo : Int32)  : Option ((Nat → Int32) × (Nat → Int64) × Int32) := if mundo = (4 : Int32) then (f_X11_minds_L10 FU mw mnames mundo (1 : Int32)) else (f_X11_minds_B53 mw mnames mundo)
set_option maxHeartbeats 4000000 in
set_option maxRecDepth 100000 in
theorem c_X11_minds {D : va_G} {cs : Nat → ClassId} {sa : Nat → Nat} {n : Nat} {ad : Nat → Nat} {A : Nat → Prop} (l : Launch) {en : Nat → va_E}  {mw : Nat → Int32} {mnames : Nat → Int64} {mtexted : Int32} {mundo : Int32} {mabove : Int64} {mbelow : Int64} {mitems : Int32} {mat : Int32} {mfault : Int32} {mtakes : Int32} {mmisses : Int64} {mbest : Int64} {mh : Int64}   {q : (Nat → Int32) × (Nat → Int64) × Int32} (hn : 110 ≤ n) (e_model : en 100 = .inr (8, [.ref (ad 101), .ref (ad 102), .ref (ad 103), .ref (ad 104), .int mtexted, .int mundo, .long mabove, .long mbelow, .ref (ad 105), .ref (ad 106), .ref (ad 107), .ref (ad 108), .int mitems, .int mat, .int mfault, .int mtakes, .long mmisses, .long mbest, .ref (ad 109), .long mh])) (e_mwarr : en 101 = .inl (cs 1, 960, .inl (mw))) (e_mnamesarr : en 102 = .inl (cs 2, 96, .inr (.inl (mnames)))) (h : f_X11_minds mw mnames mundo = some q) : Met l yX11_minds wsX11_minds { frames := 1, cells := 0, slots := 0, locals := 23 } (va_Pc [.ref (ad 100)] (Wd D cs sa n ad A en)) (va_Qv (fun u => u 100 = .inr (8, [.ref (ad 101), .ref (ad 102), .ref (ad 103), .ref (ad 104), .int mtexted, .int q.2.2, .long mabove, .long mbelow, .ref (ad 105), .ref (ad 106), .ref (ad 107), .ref (ad 108), .int mitems, .int mat, .int mfault, .int mtakes, .long mmisses, .long mbest, .ref (ad 109), .long mh]) ∧ u 101 = .inl (cs 1, 960, .inl (q.1)) ∧ u 102 = .inl (cs 2, 96, .inr (.inl (q.2.1))) ∧ (∀ j, (j < 100 ∨ 101 ≤ j) → (j < 101 ∨ 102 ≤ j) → (j < 102 ∨ 103 ≤ j) → u j = en j)) (Wd D cs sa n ad A) A) 0 0 A := by
  refine G_startV cX11_minds 2 [(0, .ref (ad 100))] (by decide) rfl (Nat.le_of_ble_eq_true rfl) rfl ?_
  intro p e s m args below meth c Q hC hnm Kr
  have inX11 : ∀ w ∈ u_ws RX11 TX11 20, w ∈ wsX11_minds := by decide +kernel
  have m105 : Cond.fieldLink RX11 105 "TongueTipModel" "undoable" "I" ∈ wsX11_minds := by decide +kernel
  have hB53 : ∀ (en1 : Nat → va_E) (mw : Nat → Int32) (mnames : Nat → Int64) (mundo : Int32), en1 100 = .inr (8, [.ref (ad 101), .ref (ad 102), .ref (ad 103), .ref (ad 104), .int mtexted, .int mundo, .long mabove, .long mbelow, .ref (ad 105), .ref (ad 106), .ref (ad 107), .ref (ad 108), .int mitems, .int mat, .int mfault, .int mtakes, .long mmisses, .long mbest, .ref (ad 109), .long mh]) → en1 101 = .inl (cs 1, 960, .inl (mw)) → en1 102 = .inl (cs 2, 96, .inr (.inl (mnames))) → (∀ j, (j < 100 ∨ 101 ≤ j) → (j < 101 ∨ 102 ≤ j) → (j < 102 ∨ 103 ≤ j) → en1 j = en j) → f_X11_minds_B53 mw mnames mundo = some q → G p l e ({ frames := 1, cells := 0, slots := 0, locals := 23 } : Room) s m args below meth c D n ad A 2 0 0 Q en1 53 [(0, .ref (ad 100))] [] := by
    intro en1 mw mnames mundo e_model e_mwarr e_mnamesarr hfr h
    unfold f_X11_minds_B53 at h
    refine G_aload_n hC 0 0 rfl rfl dX11_minds_53 ?_
    refine G_iconst hC (v := 0) (by decide) dX11_minds_54 ?_
    refine G_sipush hC (v := 480) (by decide) dX11_minds_55 ?_
    refine G_bipush hC (v := 120) (by decide) dX11_minds_58 ?_
    refine G_aload_n hC 0 0 rfl rfl dX11_minds_60 ?_
    refine G_get hC inX11 100 (by omega) (v := .int mundo) e_model rfl 5 (by decide) m105 rfl rfl dX11_minds_61 ?_
    refine G_imul hC dX11_minds_64 ?_
    refine G_iadd hC dX11_minds_65 ?_
    obtain ⟨q66, h66, h⟩ := bnd h
    refine G_cVv (st := []) hC _ 100 (by omega) (c_X11_copy  l (by omega) e_model e_mwarr e_mnamesarr h66) (cwV 2 hC.hts gX11_minds_X11_copy rfl rfl rfl (by decide +kernel) ⟨Nat.le_of_ble_eq_true rfl, Nat.le_of_ble_eq_true rfl⟩) e_model rfl rfl (Nat.le_of_ble_eq_true rfl) (Nat.zero_le _) (Nat.zero_le _) rfl dX11_minds_66 (fun en2 hw => ?_)
    obtain ⟨e_mwarr, e_mnamesarr, fr⟩ := hw
    have e_model := (fr 100 (by omega) (by omega)).trans e_model
    have hfr : ∀ j, (j < 100 ∨ 101 ≤ j) → (j < 101 ∨ 102 ≤ j) → (j < 102 ∨ 103 ≤ j) → en2 j = en j := fun j o0 o1 o2 => (fr j (by omega) (by omega)).trans (hfr j o0 o1 o2)
    refine G_aload_n hC 0 0 rfl rfl dX11_minds_69 ?_
    refine G_dup hC rfl dX11_minds_70 ?_
    refine G_get hC inX11 100 (by omega) (v := .int mundo) e_model rfl 5 (by decide) m105 rfl rfl dX11_minds_71 ?_
    refine G_iconst hC (v := 1) (by decide) dX11_minds_74 ?_
    refine G_iadd hC dX11_minds_75 ?_
    refine G_put hC inX11 tyX11 tyX11_ok nmX11 100 (by omega) e_model rfl 5 (by decide) m105 rfl rfl (ty := .int) rfl rfl rfl (Nat.le_of_ble_eq_true rfl) dX11_minds_76 (fun en3 e_model fr => ?_)
    have e_model : en3 100 = .inr (8, [.ref (ad 101), .ref (ad 102), .ref (ad 103), .ref (ad 104), .int mtexted, .int (mundo + (1 : Int32)), .long mabove, .long mbelow, .ref (ad 105), .ref (ad 106), .ref (ad 107), .ref (ad 108), .int mitems, .int mat, .int mfault, .int mtakes, .long mmisses, .long mbest, .ref (ad 109), .long mh]) := e_model
    have e_mwarr := (fr 101 (by omega)).trans e_mwarr
    have e_mnamesarr := (fr 102 (by omega)).trans e_mnamesarr
    have hfr : ∀ j, (j < 100 ∨ 101 ≤ j) → (j < 101 ∨ 102 ≤ j) → (j < 102 ∨ 103 ≤ j) → en3 j = en j := fun j o0 o1 o2 => (fr j (by omega)).trans (hfr j o0 o1 o2)
    have h := Option.some.inj h
    subst h
    exact Kr _ _ _ ⟨e_model, e_mwarr, e_mnamesarr, hfr⟩ dX11_minds_79
  have hL10 : ∀ (fu10 : Nat), ∀ (en1 : Nat → va_E) (mw : Nat → Int32) (mnames : Nat → Int64) (mundo : Int32) (x1 : Int32), en1 100 = .inr (8, [.ref (ad 101), .ref (ad 102), .ref (ad 103), .ref (ad 104), .int mtexted, .int mundo, .long mabove, .long mbelow, .ref (ad 105), .ref (ad 106), .ref (ad 107), .ref (ad 108), .int mitems, .int mat, .int mfault, .int mtakes, .long mmisses, .long mbest, .ref (ad 109), .long mh]) → en1 101 = .inl (cs 1, 960, .inl (mw)) → en1 102 = .inl (cs 2, 96, .inr (.inl (mnames))) → (∀ j, (j < 100 ∨ 101 ≤ j) → (j < 101 ∨ 102 ≤ j) → (j < 102 ∨ 103 ≤ j) → en1 j = en j) → f_X11_minds_L10 fu10 mw mnames mundo x1 = some q → G p l e ({ frames := 1, cells := 0, slots := 0, locals := 23 } : Room) s m args below meth c D n ad A 2 0 0 Q en1 10 [(0, .ref (ad 100)), (1, .int x1)] [] := by
    intro fu10
    induction fu10 with
    | zero =>
      intro en1 mw mnames mundo x1 e_model e_mwarr e_mnamesarr hfr h
      rw [f_X11_minds_L10] at h
      cases h
    | succ fu10 ih10 =>
      intro en1 mw mnames mundo x1 e_model e_mwarr e_mnamesarr hfr h
      rw [f_X11_minds_L10] at h
      refine G_iload_n hC 1 1 rfl rfl dX11_minds_10 ?_
      refine G_iconst hC (v := 4) (by decide) dX11_minds_11 ?_
      refine G_icmp_ge hC 43 dX11_minds_12 (by decide) (fun c12 => ?_) (fun c12 => ?_)
      · have h := ifp c12 h
        refine G_aload_n hC 0 0 rfl rfl dX11_minds_43 ?_
        refine G_dup hC rfl dX11_minds_44 ?_
        refine G_get hC inX11 100 (by omega) (v := .int mundo) e_model rfl 5 (by decide) m105 rfl rfl dX11_minds_45 ?_
        refine G_iconst hC (v := 1) (by decide) dX11_minds_48 ?_
        refine G_isub hC dX11_minds_49 ?_
        refine G_put hC inX11 tyX11 tyX11_ok nmX11 100 (by omega) e_model rfl 5 (by decide) m105 rfl rfl (ty := .int) rfl rfl rfl (Nat.le_of_ble_eq_true rfl) dX11_minds_50 (fun en2 e_model fr => ?_)
        have e_model : en2 100 = .inr (8, [.ref (ad 101), .ref (ad 102), .ref (ad 103), .ref (ad 104), .int mtexted, .int (mundo - (1 : Int32)), .long mabove, .long mbelow, .ref (ad 105), .ref (ad 106), .ref (ad 107), .ref (ad 108), .int mitems, .int mat, .int mfault, .int mtakes, .long mmisses, .long mbest, .ref (ad 109), .long mh]) := e_model
        have e_mwarr := (fr 101 (by omega)).trans e_mwarr
        have e_mnamesarr := (fr 102 (by omega)).trans e_mnamesarr
        have hfr : ∀ j, (j < 100 ∨ 101 ≤ j) → (j < 101 ∨ 102 ≤ j) → (j < 102 ∨ 103 ≤ j) → en2 j = en j := fun j o0 o1 o2 => (fr j (by omega)).trans (hfr j o0 o1 o2)
        refine G_lv [0] rfl ?_
        exact hB53 _ _ _ _ e_model e_mwarr e_mnamesarr hfr h
      have h := ifn c12 h
      refine G_aload_n hC 0 0 rfl rfl dX11_minds_15 ?_
      refine G_sipush hC (v := 480) (by decide) dX11_minds_16 ?_
      refine G_bipush hC (v := 120) (by decide) dX11_minds_19 ?_
      refine G_iload_n hC 1 1 rfl rfl dX11_minds_21 ?_
      refine G_imul hC dX11_minds_22 ?_
      refine G_iadd hC dX11_minds_23 ?_
      refine G_sipush hC (v := 480) (by decide) dX11_minds_24 ?_
      refine G_bipush hC (v := 120) (by decide) dX11_minds_27 ?_
      refine G_iload_n hC 1 1 rfl rfl dX11_minds_29 ?_
      refine G_iconst hC (v := 1) (by decide) dX11_minds_30 ?_
      refine G_isub hC dX11_minds_31 ?_
      refine G_imul hC dX11_minds_32 ?_
      refine G_iadd hC dX11_minds_33 ?_
      obtain ⟨q34, h34, h⟩ := bnd h
      refine G_cVv (st := []) hC _ 100 (by omega) (c_X11_copy  l (by omega) e_model e_mwarr e_mnamesarr h34) (cwV 2 hC.hts gX11_minds_X11_copy rfl rfl rfl (by decide +kernel) ⟨Nat.le_of_ble_eq_true rfl, Nat.le_of_ble_eq_true rfl⟩) e_model rfl rfl (Nat.le_of_ble_eq_true rfl) (Nat.zero_le _) (Nat.zero_le _) rfl dX11_minds_34 (fun en3 hw => ?_)
      obtain ⟨e_mwarr, e_mnamesarr, fr⟩ := hw
      have e_model := (fr 100 (by omega) (by omega)).trans e_model
      have hfr : ∀ j, (j < 100 ∨ 101 ≤ j) → (j < 101 ∨ 102 ≤ j) → (j < 102 ∨ 103 ≤ j) → en3 j = en j := fun j o0 o1 o2 => (fr j (by omega) (by omega)).trans (hfr j o0 o1 o2)
      refine G_iinc hC 1 1 [(1, .int (x1 + (1 : Int32))), (0, .ref (ad 100))] rfl rfl (by decide) rfl dX11_minds_37 ?_
      refine G_goto hC 10 dX11_minds_40 (by decide) ?_
      refine G_lv [1, 0] rfl ?_
      exact ih10 _ _ _ _ _ e_model e_mwarr e_mnamesarr hfr h
  unfold f_X11_minds at h
  have hfr : ∀ j, (j < 100 ∨ 101 ≤ j) → (j < 101 ∨ 102 ≤ j) → (j < 102 ∨ 103 ≤ j) → en j = en j := fun _ _ _ _ => rfl
  refine G_aload_n hC 0 0 rfl rfl dX11_minds_0 ?_
  refine G_get hC inX11 100 (by omega) (v := .int mundo) e_model rfl 5 (by decide) m105 rfl rfl dX11_minds_1 ?_
  refine G_iconst hC (v := 4) (by decide) dX11_minds_4 ?_
  refine G_icmp_ne hC 53 dX11_minds_5 (by decide) (fun c5 => ?_) (fun c5 => ?_)
  · have h := ifn c5 h
    refine G_lv [0] rfl ?_
    exact hB53 _ _ _ _ e_model e_mwarr e_mnamesarr hfr h
  have h := ifp c5 h
  refine G_iconst hC (v := 1) (by decide) dX11_minds_8 ?_
  refine G_istore_n hC 1 [(1, .int (1 : Int32)), (0, .ref (ad 100))] rfl (by decide) rfl dX11_minds_9 ?_
  refine G_lv [1, 0] rfl ?_
  exact hL10 FU _ _ _ _ _ e_model e_mwarr e_mnamesarr hfr h
def f_X11_think (mw : Nat → Int32) (mnames : Nat → Int64) (mundo : Int32) (mrefused : Nat → Int32) (x1 : Int32) : Option (Int32 × (Nat → Int32) × (Nat → Int64) × Int32 × (Nat → Int32)) := Option.bind (f_X11_isOne mw x1) (fun q2 => if q2 = 0 then (Option.bind (f_X11_told mrefused (-2 : Int32)) (fun q11 => some (q11.1, mw, mnames, mundo, q11.2))) else (Option.bind (f_X11_minds mw mnames mundo) (fun q16 => Option.bind (f_X11_heldNow q16.1 x1) (fun q31 => Option.bind (f_X11_lesser (20 : Int32) (q31 + (3 : Int32))) (fun q36 => if (37 : Int32) + x1 < 0 ∨ 960 ≤ ((37 : Int32) + x1).toNatClampNeg then none else (if (115 : Int32) < 0 ∨ 960 ≤ (115 : Int32).toNatClampNeg then none else (if (61 : Int32) + x1 < 0 ∨ 960 ≤ ((61 : Int32) + x1).toNatClampNeg then none else (if (37 : Int32) + x1 < 0 ∨ 960 ≤ ((37 : Int32) + x1).toNatClampNeg then none else (some ((upd (upd q16.1 ((37 : Int32) + x1).toNatClampNeg q36) ((61 : Int32) + x1).toNatClampNeg ((upd q16.1 ((37 : Int32) + x1).toNatClampNeg q36) (115 : Int32).toNatClampNeg)) ((37 : Int32) + x1).toNatClampNeg, upd (upd q16.1 ((37 : Int32) + x1).toNatClampNeg q36) ((61 : Int32) + x1).toNatClampNeg ((upd q16.1 ((37 : Int32) + x1).toNatClampNeg q36) (115 : Int32).toNatClampNeg), q16.2.1, q16.2.2, mrefused))))))))))
set_option maxHeartbeats 4000000 in
set_option maxRecDepth 100000 in
theorem c_X11_think {D : va_G} {cs : Nat → ClassId} {sa : Nat → Nat} {n : Nat} {ad : Nat → Nat} {A : Nat → Prop} (l : Launch) {en : Nat → va_E}  {mw : Nat → Int32} {mnames : Nat → Int64} {mtexted : Int32} {mundo : Int32} {mabove : Int64} {mbelow : Int64} {mrefused : Nat → Int32} {mitems : Int32} {mat : Int32} {mfault : Int32} {mtakes : Int32} {mmisses : Int64} {mbest : Int64} {mh : Int64} {x1 : Int32}  {q : Int32 × (Nat → Int32) × (Nat → Int64) × Int32 × (Nat → Int32)} (hn : 110 ≤ n) (e_model : en 100 = .inr (8, [.ref (ad 101), .ref (ad 102), .ref (ad 103), .ref (ad 104), .int mtexted, .int mundo, .long mabove, .long mbelow, .ref (ad 105), .ref (ad 106), .ref (ad 107), .ref (ad 108), .int mitems, .int mat, .int mfault, .int mtakes, .long mmisses, .long mbest, .ref (ad 109), .long mh])) (e_mwarr : en 101 = .inl (cs 1, 960, .inl (mw))) (e_mnamesarr : en 102 = .inl (cs 2, 96, .inr (.inl (mnames)))) (e_mrefusedarr : en 105 = .inl (cs 1, 3, .inl (mrefused))) (h : f_X11_think mw mnames mundo mrefused x1 = some q) : Met l yX11_think wsX11_think { frames := 2, cells := 0, slots := 0, locals := 46 } (va_Pc [.ref (ad 100), .int x1] (Wd D cs sa n ad A en)) (va_Qi (fun r u => q.1 = r ∧ u 100 = .inr (8, [.ref (ad 101), .ref (ad 102), .ref (ad 103), .ref (ad 104), .int mtexted, .int q.2.2.2.1, .long mabove, .long mbelow, .ref (ad 105), .ref (ad 106), .ref (ad 107), .ref (ad 108), .int mitems, .int mat, .int mfault, .int mtakes, .long mmisses, .long mbest, .ref (ad 109), .long mh]) ∧ u 101 = .inl (cs 1, 960, .inl (q.2.1)) ∧ u 102 = .inl (cs 2, 96, .inr (.inl (q.2.2.1))) ∧ u 105 = .inl (cs 1, 3, .inl (q.2.2.2.2)) ∧ (∀ j, (j < 100 ∨ 101 ≤ j) → (j < 101 ∨ 102 ≤ j) → (j < 102 ∨ 103 ≤ j) → (j < 105 ∨ 106 ≤ j) → u j = en j)) (Wd D cs sa n ad A) A) 0 0 A := by
  refine G_startI cX11_think 2 [(0, .ref (ad 100)), (1, .int x1)] (by decide) rfl (Nat.le_of_ble_eq_true rfl) rfl ?_
  intro p e s m args below meth c Q hC hnm Kr
  have inX11 : ∀ w ∈ u_ws RX11 TX11 20, w ∈ wsX11_think := by decide +kernel
  have m7 : Cond.fieldLink RX11 7 "TongueTipModel" "w" "[I" ∈ wsX11_think := by decide +kernel
  unfold f_X11_think at h
  have hfr : ∀ j, (j < 100 ∨ 101 ≤ j) → (j < 101 ∨ 102 ≤ j) → (j < 102 ∨ 103 ≤ j) → (j < 105 ∨ 106 ≤ j) → en j = en j := fun _ _ _ _ _ => rfl
  refine G_aload_n hC 0 0 rfl rfl dX11_think_0 ?_
  refine G_iload_n hC 1 1 rfl rfl dX11_think_1 ?_
  obtain ⟨q2, h2, h⟩ := bnd h
  refine G_cVi (st := []) hC _ 100 (by omega) (c_X11_isOne  l (by omega) e_model e_mwarr h2) (cwV 1 hC.hts gX11_think_X11_isOne rfl rfl rfl (by decide +kernel) ⟨Nat.le_of_ble_eq_true rfl, Nat.le_of_ble_eq_true rfl⟩) e_model rfl rfl (Nat.le_of_ble_eq_true rfl) (Nat.zero_le _) (Nat.zero_le _) rfl dX11_think_2 (fun r2 enx hw => ?_)
  obtain ⟨rfl, rfl⟩ := hw
  refine G_if_ne hC 15 dX11_think_5 (by decide) (fun c5 => ?_) (fun c5 => ?_)
  · have h := ifn c5 h
    refine G_aload_n hC 0 0 rfl rfl dX11_think_15 ?_
    obtain ⟨q16, h16, h⟩ := bnd h
    refine G_cVv (st := []) hC _ 100 (by omega) (c_X11_minds  l (by omega) e_model e_mwarr e_mnamesarr h16) (cwV 0 hC.hts gX11_think_X11_minds rfl rfl rfl (by decide +kernel) ⟨Nat.le_of_ble_eq_true rfl, Nat.le_of_ble_eq_true rfl⟩) e_model rfl rfl (Nat.le_of_ble_eq_true rfl) (Nat.zero_le _) (Nat.zero_le _) rfl dX11_think_16 (fun en2 hw => ?_)
    obtain ⟨e_model, e_mwarr, e_mnamesarr, fr⟩ := hw
    have e_mrefusedarr := (fr 105 (by omega) (by omega) (by omega)).trans e_mrefusedarr
    have hfr : ∀ j, (j < 100 ∨ 101 ≤ j) → (j < 101 ∨ 102 ≤ j) → (j < 102 ∨ 103 ≤ j) → (j < 105 ∨ 106 ≤ j) → en2 j = en j := fun j o0 o1 o2 o3 => (fr j (by omega) (by omega) (by omega)).trans (hfr j o0 o1 o2 o3)
    refine G_aload_n hC 0 0 rfl rfl dX11_think_19 ?_
    refine G_get hC inX11 100 (by omega) (v := .ref (ad 101)) e_model rfl 0 (by decide) m7 rfl rfl dX11_think_20 ?_
    refine G_bipush hC (v := 37) (by decide) dX11_think_23 ?_
    refine G_iload_n hC 1 1 rfl rfl dX11_think_25 ?_
    refine G_iadd hC dX11_think_26 ?_
    refine G_bipush hC (v := 20) (by decide) dX11_think_27 ?_
    refine G_aload_n hC 0 0 rfl rfl dX11_think_29 ?_
    refine G_iload_n hC 1 1 rfl rfl dX11_think_30 ?_
    obtain ⟨q31, h31, h⟩ := bnd h
    refine G_cVi (st := [.int (20 : Int32), .int ((37 : Int32) + x1), .ref (ad 101)]) hC _ 100 (by omega) (c_X11_heldNow  l (by omega) e_model e_mwarr h31) (cwV 1 hC.hts gX11_think_X11_heldNow rfl rfl rfl (by decide +kernel) ⟨Nat.le_of_ble_eq_true rfl, Nat.le_of_ble_eq_true rfl⟩) e_model rfl rfl (Nat.le_of_ble_eq_true rfl) (Nat.zero_le _) (Nat.zero_le _) rfl dX11_think_31 (fun r31 enx hw => ?_)
    obtain ⟨rfl, rfl⟩ := hw
    refine G_iconst hC (v := 3) (by decide) dX11_think_34 ?_
    refine G_iadd hC dX11_think_35 ?_
    obtain ⟨q36, h36, h⟩ := bnd h
    refine G_cSi (st := [.int ((37 : Int32) + x1), .ref (ad 101)]) hC _ (c_X11_lesser  l  h36) (va_cwS 2 hC.hts gX11_think_X11_lesser rfl rfl rfl (by decide +kernel) ⟨Nat.le_of_ble_eq_true rfl, Nat.le_of_ble_eq_true rfl⟩) rfl (Nat.le_of_ble_eq_true rfl) (Nat.zero_le _) (Nat.zero_le _) rfl dX11_think_36 (fun r36 enx hw => ?_)
    obtain ⟨rfl, rfl⟩ := hw
    obtain ⟨g39, h⟩ := asn h
    refine G_iast hC 101 (by omega) e_mwarr g39 dX11_think_39 (fun en3 e_mwarr fr => ?_)
    have e_mwarr : en3 101 = .inl (cs 1, 960, .inl (upd q16.1 ((37 : Int32) + x1).toNatClampNeg q36)) := e_mwarr
    have e_model := (fr 100 (by omega)).trans e_model
    have e_mnamesarr := (fr 102 (by omega)).trans e_mnamesarr
    have e_mrefusedarr := (fr 105 (by omega)).trans e_mrefusedarr
    have hfr : ∀ j, (j < 100 ∨ 101 ≤ j) → (j < 101 ∨ 102 ≤ j) → (j < 102 ∨ 103 ≤ j) → (j < 105 ∨ 106 ≤ j) → en3 j = en j := fun j o0 o1 o2 o3 => (fr j (by omega)).trans (hfr j o0 o1 o2 o3)
    refine G_aload_n hC 0 0 rfl rfl dX11_think_40 ?_
    refine G_get hC inX11 100 (by omega) (v := .ref (ad 101)) e_model rfl 0 (by decide) m7 rfl rfl dX11_think_41 ?_
    refine G_bipush hC (v := 61) (by decide) dX11_think_44 ?_
    refine G_iload_n hC 1 1 rfl rfl dX11_think_46 ?_
    refine G_iadd hC dX11_think_47 ?_
    refine G_aload_n hC 0 0 rfl rfl dX11_think_48 ?_
    refine G_get hC inX11 100 (by omega) (v := .ref (ad 101)) e_model rfl 0 (by decide) m7 rfl rfl dX11_think_49 ?_
    refine G_bipush hC (v := 115) (by decide) dX11_think_52 ?_
    obtain ⟨g54, h⟩ := asn h
    refine G_iald hC 101 (by omega) e_mwarr g54 dX11_think_54 ?_
    obtain ⟨g55, h⟩ := asn h
    refine G_iast hC 101 (by omega) e_mwarr g55 dX11_think_55 (fun en4 e_mwarr fr => ?_)
    have e_mwarr : en4 101 = .inl (cs 1, 960, .inl (upd (upd q16.1 ((37 : Int32) + x1).toNatClampNeg q36) ((61 : Int32) + x1).toNatClampNeg ((upd q16.1 ((37 : Int32) + x1).toNatClampNeg q36) (115 : Int32).toNatClampNeg))) := e_mwarr
    have e_model := (fr 100 (by omega)).trans e_model
    have e_mnamesarr := (fr 102 (by omega)).trans e_mnamesarr
    have e_mrefusedarr := (fr 105 (by omega)).trans e_mrefusedarr
    have hfr : ∀ j, (j < 100 ∨ 101 ≤ j) → (j < 101 ∨ 102 ≤ j) → (j < 102 ∨ 103 ≤ j) → (j < 105 ∨ 106 ≤ j) → en4 j = en j := fun j o0 o1 o2 o3 => (fr j (by omega)).trans (hfr j o0 o1 o2 o3)
    refine G_aload_n hC 0 0 rfl rfl dX11_think_56 ?_
    refine G_get hC inX11 100 (by omega) (v := .ref (ad 101)) e_model rfl 0 (by decide) m7 rfl rfl dX11_think_57 ?_
    refine G_bipush hC (v := 37) (by decide) dX11_think_60 ?_
    refine G_iload_n hC 1 1 rfl rfl dX11_think_62 ?_
    refine G_iadd hC dX11_think_63 ?_
    obtain ⟨g64, h⟩ := asn h
    refine G_iald hC 101 (by omega) e_mwarr g64 dX11_think_64 ?_
    have h := Option.some.inj h
    subst h
    exact Kr _ _ _ _ (nar_i _) ⟨rfl, e_model, e_mwarr, e_mnamesarr, e_mrefusedarr, hfr⟩ dX11_think_65
  have h := ifp c5 h
  refine G_aload_n hC 0 0 rfl rfl dX11_think_8 ?_
  refine G_bipush hC (v := (-2)) (by decide) dX11_think_9 ?_
  obtain ⟨q11, h11, h⟩ := bnd h
  refine G_cVi (st := []) hC _ 100 (by omega) (c_X11_told  l (by omega) e_model e_mrefusedarr h11) (cwV 1 hC.hts gX11_think_X11_told rfl rfl rfl (by decide +kernel) ⟨Nat.le_of_ble_eq_true rfl, Nat.le_of_ble_eq_true rfl⟩) e_model rfl rfl (Nat.le_of_ble_eq_true rfl) (Nat.zero_le _) (Nat.zero_le _) rfl dX11_think_11 (fun r11 en5 hw => ?_)
  obtain ⟨rfl, e_mrefusedarr, fr⟩ := hw
  have e_model := (fr 100 (by omega)).trans e_model
  have e_mwarr := (fr 101 (by omega)).trans e_mwarr
  have e_mnamesarr := (fr 102 (by omega)).trans e_mnamesarr
  have hfr : ∀ j, (j < 100 ∨ 101 ≤ j) → (j < 101 ∨ 102 ≤ j) → (j < 102 ∨ 103 ≤ j) → (j < 105 ∨ 106 ≤ j) → en5 j = en j := fun j o0 o1 o2 o3 => (fr j (by omega)).trans (hfr j o0 o1 o2 o3)
  have h := Option.some.inj h
  subst h
  exact Kr _ _ _ _ (nar_i _) ⟨rfl, e_model, e_mwarr, e_mnamesarr, e_mrefusedarr, hfr⟩ dX11_think_14
def f_X11_days (mw : Nat → Int32) (mnames : Nat → Int64) (mundo : Int32) (mrefused : Nat → Int32) (x1 : Int32) : Option (Int32 × (Nat → Int32) × (Nat → Int64) × Int32 × (Nat → Int32)) := Option.bind (f_X11_in x1.toInt64 (1 : Int64) (999 : Int64)) (fun q6 => if q6 = 0 then (Option.bind (f_X11_told mrefused (-2 : Int32)) (fun q15 => some (q15.1, mw, mnames, mundo, q15.2))) else (if (115 : Int32) < 0 ∨ 960 ≤ (115 : Int32).toNatClampNeg then none else (if (mw (115 : Int32).toNatClampNeg) + x1 ≤ (999 : Int32) then (Option.bind (f_X11_minds mw mnames mundo) (fun q42 => if (115 : Int32) < 0 ∨ 960 ≤ (115 : Int32).toNatClampNeg then none else (if (115 : Int32) < 0 ∨ 960 ≤ (115 : Int32).toNatClampNeg then none else (if (115 : Int32) < 0 ∨ 960 ≤ (115 : Int32).toNatClampNeg then none else (some ((upd q42.1 (115 : Int32).toNatClampNeg ((q42.1 (115 : Int32).toNatClampNeg) + x1)) (115 : Int32).toNatClampNeg, upd q42.1 (115 : Int32).toNatClampNeg ((q42.1 (115 : Int32).toNatClampNeg) + x1), q42.2.1, q42.2.2, mrefused)))))) else (Option.bind (f_X11_told mrefused (-3 : Int32)) (fun q37 => some (q37.1, mw, mnames, mundo, q37.2))))))
set_option maxHeartbeats 4000000 in
set_option maxRecDepth 100000 in
theorem c_X11_days {D : va_G} {cs : Nat → ClassId} {sa : Nat → Nat} {n : Nat} {ad : Nat → Nat} {A : Nat → Prop} (l : Launch) {en : Nat → va_E}  {mw : Nat → Int32} {mnames : Nat → Int64} {mtexted : Int32} {mundo : Int32} {mabove : Int64} {mbelow : Int64} {mrefused : Nat → Int32} {mitems : Int32} {mat : Int32} {mfault : Int32} {mtakes : Int32} {mmisses : Int64} {mbest : Int64} {mh : Int64} {x1 : Int32}  {q : Int32 × (Nat → Int32) × (Nat → Int64) × Int32 × (Nat → Int32)} (hn : 110 ≤ n) (e_model : en 100 = .inr (8, [.ref (ad 101), .ref (ad 102), .ref (ad 103), .ref (ad 104), .int mtexted, .int mundo, .long mabove, .long mbelow, .ref (ad 105), .ref (ad 106), .ref (ad 107), .ref (ad 108), .int mitems, .int mat, .int mfault, .int mtakes, .long mmisses, .long mbest, .ref (ad 109), .long mh])) (e_mwarr : en 101 = .inl (cs 1, 960, .inl (mw))) (e_mnamesarr : en 102 = .inl (cs 2, 96, .inr (.inl (mnames)))) (e_mrefusedarr : en 105 = .inl (cs 1, 3, .inl (mrefused))) (h : f_X11_days mw mnames mundo mrefused x1 = some q) : Met l yX11_days wsX11_days { frames := 2, cells := 0, slots := 0, locals := 44 } (va_Pc [.ref (ad 100), .int x1] (Wd D cs sa n ad A en)) (va_Qi (fun r u => q.1 = r ∧ u 100 = .inr (8, [.ref (ad 101), .ref (ad 102), .ref (ad 103), .ref (ad 104), .int mtexted, .int q.2.2.2.1, .long mabove, .long mbelow, .ref (ad 105), .ref (ad 106), .ref (ad 107), .ref (ad 108), .int mitems, .int mat, .int mfault, .int mtakes, .long mmisses, .long mbest, .ref (ad 109), .long mh]) ∧ u 101 = .inl (cs 1, 960, .inl (q.2.1)) ∧ u 102 = .inl (cs 2, 96, .inr (.inl (q.2.2.1))) ∧ u 105 = .inl (cs 1, 3, .inl (q.2.2.2.2)) ∧ (∀ j, (j < 100 ∨ 101 ≤ j) → (j < 101 ∨ 102 ≤ j) → (j < 102 ∨ 103 ≤ j) → (j < 105 ∨ 106 ≤ j) → u j = en j)) (Wd D cs sa n ad A) A) 0 0 A := by
  refine G_startI cX11_days 2 [(0, .ref (ad 100)), (1, .int x1)] (by decide) rfl (Nat.le_of_ble_eq_true rfl) rfl ?_
  intro p e s m args below meth c Q hC hnm Kr
  have inX11 : ∀ w ∈ u_ws RX11 TX11 20, w ∈ wsX11_days := by decide +kernel
  have k103 : Cond.constantLong RX11 103 (999) ∈ wsX11_days := by decide +kernel
  have m7 : Cond.fieldLink RX11 7 "TongueTipModel" "w" "[I" ∈ wsX11_days := by decide +kernel
  unfold f_X11_days at h
  have hfr : ∀ j, (j < 100 ∨ 101 ≤ j) → (j < 101 ∨ 102 ≤ j) → (j < 102 ∨ 103 ≤ j) → (j < 105 ∨ 106 ≤ j) → en j = en j := fun _ _ _ _ _ => rfl
  refine G_iload_n hC 1 1 rfl rfl dX11_days_0 ?_
  refine G_i2l hC dX11_days_1 ?_
  refine G_lconst hC (v := 1) (by decide) dX11_days_2 ?_
  refine G_ldc2 hC (v := (999)) k103 dX11_days_3 ?_
  obtain ⟨q6, h6, h⟩ := bnd h
  refine G_cSi (st := []) hC _ (c_X11_in  l  h6) (va_cwS 3 hC.hts gX11_days_X11_in rfl rfl rfl (by decide +kernel) ⟨Nat.le_of_ble_eq_true rfl, Nat.le_of_ble_eq_true rfl⟩) rfl (Nat.le_of_ble_eq_true rfl) (Nat.zero_le _) (Nat.zero_le _) rfl dX11_days_6 (fun r6 enx hw => ?_)
  obtain ⟨rfl, rfl⟩ := hw
  refine G_if_ne hC 19 dX11_days_9 (by decide) (fun c9 => ?_) (fun c9 => ?_)
  · have h := ifn c9 h
    refine G_aload_n hC 0 0 rfl rfl dX11_days_19 ?_
    refine G_get hC inX11 100 (by omega) (v := .ref (ad 101)) e_model rfl 0 (by decide) m7 rfl rfl dX11_days_20 ?_
    refine G_bipush hC (v := 115) (by decide) dX11_days_23 ?_
    obtain ⟨g25, h⟩ := asn h
    refine G_iald hC 101 (by omega) e_mwarr g25 dX11_days_25 ?_
    refine G_iload_n hC 1 1 rfl rfl dX11_days_26 ?_
    refine G_iadd hC dX11_days_27 ?_
    refine G_sipush hC (v := 999) (by decide) dX11_days_28 ?_
    refine G_icmp_le hC 41 dX11_days_31 (by decide) (fun c31 => ?_) (fun c31 => ?_)
    · have h := ifp c31 h
      refine G_aload_n hC 0 0 rfl rfl dX11_days_41 ?_
      obtain ⟨q42, h42, h⟩ := bnd h
      refine G_cVv (st := []) hC _ 100 (by omega) (c_X11_minds  l (by omega) e_model e_mwarr e_mnamesarr h42) (cwV 0 hC.hts gX11_days_X11_minds rfl rfl rfl (by decide +kernel) ⟨Nat.le_of_ble_eq_true rfl, Nat.le_of_ble_eq_true rfl⟩) e_model rfl rfl (Nat.le_of_ble_eq_true rfl) (Nat.zero_le _) (Nat.zero_le _) rfl dX11_days_42 (fun en2 hw => ?_)
      obtain ⟨e_model, e_mwarr, e_mnamesarr, fr⟩ := hw
      have e_mrefusedarr := (fr 105 (by omega) (by omega) (by omega)).trans e_mrefusedarr
      have hfr : ∀ j, (j < 100 ∨ 101 ≤ j) → (j < 101 ∨ 102 ≤ j) → (j < 102 ∨ 103 ≤ j) → (j < 105 ∨ 106 ≤ j) → en2 j = en j := fun j o0 o1 o2 o3 => (fr j (by omega) (by omega) (by omega)).trans (hfr j o0 o1 o2 o3)
      refine G_aload_n hC 0 0 rfl rfl dX11_days_45 ?_
      refine G_get hC inX11 100 (by omega) (v := .ref (ad 101)) e_model rfl 0 (by decide) m7 rfl rfl dX11_days_46 ?_
      refine G_bipush hC (v := 115) (by decide) dX11_days_49 ?_
      refine G_dup2_11 hC rfl rfl dX11_days_51 ?_
      obtain ⟨g52, h⟩ := asn h
      refine G_iald hC 101 (by omega) e_mwarr g52 dX11_days_52 ?_
      refine G_iload_n hC 1 1 rfl rfl dX11_days_53 ?_
      refine G_iadd hC dX11_days_54 ?_
      obtain ⟨g55, h⟩ := asn h
      refine G_iast hC 101 (by omega) e_mwarr g55 dX11_days_55 (fun en3 e_mwarr fr => ?_)
      have e_mwarr : en3 101 = .inl (cs 1, 960, .inl (upd q42.1 (115 : Int32).toNatClampNeg ((q42.1 (115 : Int32).toNatClampNeg) + x1))) := e_mwarr
      have e_model := (fr 100 (by omega)).trans e_model
      have e_mnamesarr := (fr 102 (by omega)).trans e_mnamesarr
      have e_mrefusedarr := (fr 105 (by omega)).trans e_mrefusedarr
      have hfr : ∀ j, (j < 100 ∨ 101 ≤ j) → (j < 101 ∨ 102 ≤ j) → (j < 102 ∨ 103 ≤ j) → (j < 105 ∨ 106 ≤ j) → en3 j = en j := fun j o0 o1 o2 o3 => (fr j (by omega)).trans (hfr j o0 o1 o2 o3)
      refine G_aload_n hC 0 0 rfl rfl dX11_days_56 ?_
      refine G_get hC inX11 100 (by omega) (v := .ref (ad 101)) e_model rfl 0 (by decide) m7 rfl rfl dX11_days_57 ?_
      refine G_bipush hC (v := 115) (by decide) dX11_days_60 ?_
      obtain ⟨g62, h⟩ := asn h
      refine G_iald hC 101 (by omega) e_mwarr g62 dX11_days_62 ?_
      have h := Option.some.inj h
      subst h
      exact Kr _ _ _ _ (nar_i _) ⟨rfl, e_model, e_mwarr, e_mnamesarr, e_mrefusedarr, hfr⟩ dX11_days_63
    have h := ifn c31 h
    refine G_aload_n hC 0 0 rfl rfl dX11_days_34 ?_
    refine G_bipush hC (v := (-3)) (by decide) dX11_days_35 ?_
    obtain ⟨q37, h37, h⟩ := bnd h
    refine G_cVi (st := []) hC _ 100 (by omega) (c_X11_told  l (by omega) e_model e_mrefusedarr h37) (cwV 1 hC.hts gX11_days_X11_told rfl rfl rfl (by decide +kernel) ⟨Nat.le_of_ble_eq_true rfl, Nat.le_of_ble_eq_true rfl⟩) e_model rfl rfl (Nat.le_of_ble_eq_true rfl) (Nat.zero_le _) (Nat.zero_le _) rfl dX11_days_37 (fun r37 en4 hw => ?_)
    obtain ⟨rfl, e_mrefusedarr, fr⟩ := hw
    have e_model := (fr 100 (by omega)).trans e_model
    have e_mwarr := (fr 101 (by omega)).trans e_mwarr
    have e_mnamesarr := (fr 102 (by omega)).trans e_mnamesarr
    have hfr : ∀ j, (j < 100 ∨ 101 ≤ j) → (j < 101 ∨ 102 ≤ j) → (j < 102 ∨ 103 ≤ j) → (j < 105 ∨ 106 ≤ j) → en4 j = en j := fun j o0 o1 o2 o3 => (fr j (by omega)).trans (hfr j o0 o1 o2 o3)
    have h := Option.some.inj h
    subst h
    exact Kr _ _ _ _ (nar_i _) ⟨rfl, e_model, e_mwarr, e_mnamesarr, e_mrefusedarr, hfr⟩ dX11_days_40
  have h := ifp c9 h
  refine G_aload_n hC 0 0 rfl rfl dX11_days_12 ?_
  refine G_bipush hC (v := (-2)) (by decide) dX11_days_13 ?_
  obtain ⟨q15, h15, h⟩ := bnd h
  refine G_cVi (st := []) hC _ 100 (by omega) (c_X11_told  l (by omega) e_model e_mrefusedarr h15) (cwV 1 hC.hts gX11_days_X11_told rfl rfl rfl (by decide +kernel) ⟨Nat.le_of_ble_eq_true rfl, Nat.le_of_ble_eq_true rfl⟩) e_model rfl rfl (Nat.le_of_ble_eq_true rfl) (Nat.zero_le _) (Nat.zero_le _) rfl dX11_days_15 (fun r15 en5 hw => ?_)
  obtain ⟨rfl, e_mrefusedarr, fr⟩ := hw
  have e_model := (fr 100 (by omega)).trans e_model
  have e_mwarr := (fr 101 (by omega)).trans e_mwarr
  have e_mnamesarr := (fr 102 (by omega)).trans e_mnamesarr
  have hfr : ∀ j, (j < 100 ∨ 101 ≤ j) → (j < 101 ∨ 102 ≤ j) → (j < 102 ∨ 103 ≤ j) → (j < 105 ∨ 106 ≤ j) → en5 j = en j := fun j o0 o1 o2 o3 => (fr j (by omega)).trans (hfr j o0 o1 o2 o3)
  have h := Option.some.inj h
  subst h
  exact Kr _ _ _ _ (nar_i _) ⟨rfl, e_model, e_mwarr, e_mnamesarr, e_mrefusedarr, hfr⟩ dX11_days_18
def f_X11_undo (mw : Nat → Int32) (mnames : Nat → Int64) (mundo : Int32) (mrefused : Nat → Int32)  : Option (Int32 × (Nat → Int32) × (Nat → Int64) × Int32 × (Nat → Int32)) := if mundo = 0 then (Option.bind (f_X11_told mrefused (-3 : Int32)) (fun q10 => some (q10.1, mw, mnames, mundo, q10.2))) else (Option.bind (f_X11_copy mw mnames ((480 : Int32) + ((120 : Int32) * (mundo - (1 : Int32)))) (0 : Int32)) (fun q37 => some ((1 : Int32), q37.1, q37.2, mundo - (1 : Int32), mrefused)))
set_option maxHeartbeats 4000000 in
set_option maxRecDepth 100000 in
theorem c_X11_undo {D : va_G} {cs : Nat → ClassId} {sa : Nat → Nat} {n : Nat} {ad : Nat → Nat} {A : Nat → Prop} (l : Launch) {en : Nat → va_E}  {mw : Nat → Int32} {mnames : Nat → Int64} {mtexted : Int32} {mundo : Int32} {mabove : Int64} {mbelow : Int64} {mrefused : Nat → Int32} {mitems : Int32} {mat : Int32} {mfault : Int32} {mtakes : Int32} {mmisses : Int64} {mbest : Int64} {mh : Int64}   {q : Int32 × (Nat → Int32) × (Nat → Int64) × Int32 × (Nat → Int32)} (hn : 110 ≤ n) (e_model : en 100 = .inr (8, [.ref (ad 101), .ref (ad 102), .ref (ad 103), .ref (ad 104), .int mtexted, .int mundo, .long mabove, .long mbelow, .ref (ad 105), .ref (ad 106), .ref (ad 107), .ref (ad 108), .int mitems, .int mat, .int mfault, .int mtakes, .long mmisses, .long mbest, .ref (ad 109), .long mh])) (e_mwarr : en 101 = .inl (cs 1, 960, .inl (mw))) (e_mnamesarr : en 102 = .inl (cs 2, 96, .inr (.inl (mnames)))) (e_mrefusedarr : en 105 = .inl (cs 1, 3, .inl (mrefused))) (h : f_X11_undo mw mnames mundo mrefused = some q) : Met l yX11_undo wsX11_undo { frames := 1, cells := 0, slots := 0, locals := 23 } (va_Pc [.ref (ad 100)] (Wd D cs sa n ad A en)) (va_Qi (fun r u => q.1 = r ∧ u 100 = .inr (8, [.ref (ad 101), .ref (ad 102), .ref (ad 103), .ref (ad 104), .int mtexted, .int q.2.2.2.1, .long mabove, .long mbelow, .ref (ad 105), .ref (ad 106), .ref (ad 107), .ref (ad 108), .int mitems, .int mat, .int mfault, .int mtakes, .long mmisses, .long mbest, .ref (ad 109), .long mh]) ∧ u 101 = .inl (cs 1, 960, .inl (q.2.1)) ∧ u 102 = .inl (cs 2, 96, .inr (.inl (q.2.2.1))) ∧ u 105 = .inl (cs 1, 3, .inl (q.2.2.2.2)) ∧ (∀ j, (j < 100 ∨ 101 ≤ j) → (j < 101 ∨ 102 ≤ j) → (j < 102 ∨ 103 ≤ j) → (j < 105 ∨ 106 ≤ j) → u j = en j)) (Wd D cs sa n ad A) A) 0 0 A := by
  refine G_startI cX11_undo 1 [(0, .ref (ad 100))] (by decide) rfl (Nat.le_of_ble_eq_true rfl) rfl ?_
  intro p e s m args below meth c Q hC hnm Kr
  have inX11 : ∀ w ∈ u_ws RX11 TX11 20, w ∈ wsX11_undo := by decide +kernel
  have m105 : Cond.fieldLink RX11 105 "TongueTipModel" "undoable" "I" ∈ wsX11_undo := by decide +kernel
  unfold f_X11_undo at h
  have hfr : ∀ j, (j < 100 ∨ 101 ≤ j) → (j < 101 ∨ 102 ≤ j) → (j < 102 ∨ 103 ≤ j) → (j < 105 ∨ 106 ≤ j) → en j = en j := fun _ _ _ _ _ => rfl
  refine G_aload_n hC 0 0 rfl rfl dX11_undo_0 ?_
  refine G_get hC inX11 100 (by omega) (v := .int mundo) e_model rfl 5 (by decide) m105 rfl rfl dX11_undo_1 ?_
  refine G_if_ne hC 14 dX11_undo_4 (by decide) (fun c4 => ?_) (fun c4 => ?_)
  · have h := ifn c4 h
    refine G_aload_n hC 0 0 rfl rfl dX11_undo_14 ?_
    refine G_dup hC rfl dX11_undo_15 ?_
    refine G_get hC inX11 100 (by omega) (v := .int mundo) e_model rfl 5 (by decide) m105 rfl rfl dX11_undo_16 ?_
    refine G_iconst hC (v := 1) (by decide) dX11_undo_19 ?_
    refine G_isub hC dX11_undo_20 ?_
    refine G_put hC inX11 tyX11 tyX11_ok nmX11 100 (by omega) e_model rfl 5 (by decide) m105 rfl rfl (ty := .int) rfl rfl rfl (Nat.le_of_ble_eq_true rfl) dX11_undo_21 (fun en2 e_model fr => ?_)
    have e_model : en2 100 = .inr (8, [.ref (ad 101), .ref (ad 102), .ref (ad 103), .ref (ad 104), .int mtexted, .int (mundo - (1 : Int32)), .long mabove, .long mbelow, .ref (ad 105), .ref (ad 106), .ref (ad 107), .ref (ad 108), .int mitems, .int mat, .int mfault, .int mtakes, .long mmisses, .long mbest, .ref (ad 109), .long mh]) := e_model
    have e_mwarr := (fr 101 (by omega)).trans e_mwarr
    have e_mnamesarr := (fr 102 (by omega)).trans e_mnamesarr
    have e_mrefusedarr := (fr 105 (by omega)).trans e_mrefusedarr
    have hfr : ∀ j, (j < 100 ∨ 101 ≤ j) → (j < 101 ∨ 102 ≤ j) → (j < 102 ∨ 103 ≤ j) → (j < 105 ∨ 106 ≤ j) → en2 j = en j := fun j o0 o1 o2 o3 => (fr j (by omega)).trans (hfr j o0 o1 o2 o3)
    refine G_aload_n hC 0 0 rfl rfl dX11_undo_24 ?_
    refine G_sipush hC (v := 480) (by decide) dX11_undo_25 ?_
    refine G_bipush hC (v := 120) (by decide) dX11_undo_28 ?_
    refine G_aload_n hC 0 0 rfl rfl dX11_undo_30 ?_
    refine G_get hC inX11 100 (by omega) (v := .int (mundo - (1 : Int32))) e_model rfl 5 (by decide) m105 rfl rfl dX11_undo_31 ?_
    refine G_imul hC dX11_undo_34 ?_
    refine G_iadd hC dX11_undo_35 ?_
    refine G_iconst hC (v := 0) (by decide) dX11_undo_36 ?_
    obtain ⟨q37, h37, h⟩ := bnd h
    refine G_cVv (st := []) hC _ 100 (by omega) (c_X11_copy  l (by omega) e_model e_mwarr e_mnamesarr h37) (cwV 2 hC.hts gX11_undo_X11_copy rfl rfl rfl (by decide +kernel) ⟨Nat.le_of_ble_eq_true rfl, Nat.le_of_ble_eq_true rfl⟩) e_model rfl rfl (Nat.le_of_ble_eq_true rfl) (Nat.zero_le _) (Nat.zero_le _) rfl dX11_undo_37 (fun en3 hw => ?_)
    obtain ⟨e_mwarr, e_mnamesarr, fr⟩ := hw
    have e_model := (fr 100 (by omega) (by omega)).trans e_model
    have e_mrefusedarr := (fr 105 (by omega) (by omega)).trans e_mrefusedarr
    have hfr : ∀ j, (j < 100 ∨ 101 ≤ j) → (j < 101 ∨ 102 ≤ j) → (j < 102 ∨ 103 ≤ j) → (j < 105 ∨ 106 ≤ j) → en3 j = en j := fun j o0 o1 o2 o3 => (fr j (by omega) (by omega)).trans (hfr j o0 o1 o2 o3)
    refine G_iconst hC (v := 1) (by decide) dX11_undo_40 ?_
    have h := Option.some.inj h
    subst h
    exact Kr _ _ _ _ (nar_i _) ⟨rfl, e_model, e_mwarr, e_mnamesarr, e_mrefusedarr, hfr⟩ dX11_undo_41
  have h := ifp c4 h
  refine G_aload_n hC 0 0 rfl rfl dX11_undo_7 ?_
  refine G_bipush hC (v := (-3)) (by decide) dX11_undo_8 ?_
  obtain ⟨q10, h10, h⟩ := bnd h
  refine G_cVi (st := []) hC _ 100 (by omega) (c_X11_told  l (by omega) e_model e_mrefusedarr h10) (cwV 1 hC.hts gX11_undo_X11_told rfl rfl rfl (by decide +kernel) ⟨Nat.le_of_ble_eq_true rfl, Nat.le_of_ble_eq_true rfl⟩) e_model rfl rfl (Nat.le_of_ble_eq_true rfl) (Nat.zero_le _) (Nat.zero_le _) rfl dX11_undo_10 (fun r10 en4 hw => ?_)
  obtain ⟨rfl, e_mrefusedarr, fr⟩ := hw
  have e_model := (fr 100 (by omega)).trans e_model
  have e_mwarr := (fr 101 (by omega)).trans e_mwarr
  have e_mnamesarr := (fr 102 (by omega)).trans e_mnamesarr
  have hfr : ∀ j, (j < 100 ∨ 101 ≤ j) → (j < 101 ∨ 102 ≤ j) → (j < 102 ∨ 103 ≤ j) → (j < 105 ∨ 106 ≤ j) → en4 j = en j := fun j o0 o1 o2 o3 => (fr j (by omega)).trans (hfr j o0 o1 o2 o3)
  have h := Option.some.inj h
  subst h
  exact Kr _ _ _ _ (nar_i _) ⟨rfl, e_model, e_mwarr, e_mnamesarr, e_mrefusedarr, hfr⟩ dX11_undo_13
def f_X11_type_L43   : Nat → (Nat → Int32) → Int32 → (Nat → Int32) → Int64 → Int32 → Option (Int32 × (Nat → Int32) × Int32 × (Nat → Int32))
  | 0, _, _, _, _, _ => none
  | fu + 1, mtext, mtexted, mrefused, x1, x4 => if x4 < 0 then (some (mtexted, mtext, mtexted, mrefused)) else (if mtexted < 0 ∨ 300 ≤ mtexted.toNatClampNeg then none else (f_X11_type_L43 fu (upd mtext mtexted.toNatClampNeg (((x1 >>> (((8 : Int32) * x4).toInt64 &&& (63 : Int64))) &&& (255 : Int64)).toInt32)) (mtexted + (1 : Int32)) mrefused x1 (x4 + (-1 : Int32))))
def f_X11_type (mtext : Nat → Int32) (mtexted : Int32) (mrefused : Nat → Int32) (x1 : Int64) (x3 : Int32) : Option (Int32 × (Nat → Int32) × Int32 × (Nat → Int32)) := Option.bind (f_X11_in x3.toInt64 (1 : Int64) (8 : Int64)) (fun q6 => if q6 = 0 then (Option.bind (f_X11_told mrefused (-2 : Int32)) (fun q15 => some (q15.1, mtext, mtexted, q15.2))) else (if mtexted + x3 ≤ (300 : Int32) then (f_X11_type_L43 FU mtext mtexted mrefused x1 (x3 - (1 : Int32))) else (Option.bind (f_X11_told mrefused (-4 : Int32)) (fun q34 => some (q34.1, mtext, mtexted, q34.2)))))
set_option maxHeartbeats 4000000 in
set_option maxRecDepth 100000 in
theorem c_X11_type {D : va_G} {cs : Nat → ClassId} {sa : Nat → Nat} {n : Nat} {ad : Nat → Nat} {A : Nat → Prop} (l : Launch) {en : Nat → va_E}  {mtext : Nat → Int32} {mtexted : Int32} {mundo : Int32} {mabove : Int64} {mbelow : Int64} {mrefused : Nat → Int32} {mitems : Int32} {mat : Int32} {mfault : Int32} {mtakes : Int32} {mmisses : Int64} {mbest : Int64} {mh : Int64} {x1 : Int64} {x3 : Int32}  {q : Int32 × (Nat → Int32) × Int32 × (Nat → Int32)} (hn : 110 ≤ n) (e_model : en 100 = .inr (8, [.ref (ad 101), .ref (ad 102), .ref (ad 103), .ref (ad 104), .int mtexted, .int mundo, .long mabove, .long mbelow, .ref (ad 105), .ref (ad 106), .ref (ad 107), .ref (ad 108), .int mitems, .int mat, .int mfault, .int mtakes, .long mmisses, .long mbest, .ref (ad 109), .long mh])) (e_mtextarr : en 104 = .inl (cs 1, 300, .inl (mtext))) (e_mrefusedarr : en 105 = .inl (cs 1, 3, .inl (mrefused))) (h : f_X11_type mtext mtexted mrefused x1 x3 = some q) : Met l yX11_type wsX11_type { frames := 1, cells := 0, slots := 0, locals := 25 } (va_Pc [.ref (ad 100), .long x1, .int x3] (Wd D cs sa n ad A en)) (va_Qi (fun r u => q.1 = r ∧ u 100 = .inr (8, [.ref (ad 101), .ref (ad 102), .ref (ad 103), .ref (ad 104), .int q.2.2.1, .int mundo, .long mabove, .long mbelow, .ref (ad 105), .ref (ad 106), .ref (ad 107), .ref (ad 108), .int mitems, .int mat, .int mfault, .int mtakes, .long mmisses, .long mbest, .ref (ad 109), .long mh]) ∧ u 104 = .inl (cs 1, 300, .inl (q.2.1)) ∧ u 105 = .inl (cs 1, 3, .inl (q.2.2.2)) ∧ (∀ j, (j < 100 ∨ 101 ≤ j) → (j < 104 ∨ 105 ≤ j) → (j < 105 ∨ 106 ≤ j) → u j = en j)) (Wd D cs sa n ad A) A) 0 0 A := by
  refine G_startI cX11_type 5 [(0, .ref (ad 100)), (1, .long x1), (3, .int x3)] (by decide) rfl (Nat.le_of_ble_eq_true rfl) rfl ?_
  intro p e s m args below meth c Q hC hnm Kr
  have inX11 : ∀ w ∈ u_ws RX11 TX11 20, w ∈ wsX11_type := by decide +kernel
  have k122 : Cond.constantLong RX11 122 (8) ∈ wsX11_type := by decide +kernel
  have k127 : Cond.constantLong RX11 127 (255) ∈ wsX11_type := by decide +kernel
  have m124 : Cond.fieldLink RX11 124 "TongueTipModel" "texted" "I" ∈ wsX11_type := by decide +kernel
  have m21 : Cond.fieldLink RX11 21 "TongueTipModel" "text" "[I" ∈ wsX11_type := by decide +kernel
  have hL43 : ∀ (fu43 : Nat), ∀ (en1 : Nat → va_E) (mtext : Nat → Int32) (mtexted : Int32) (mrefused : Nat → Int32) (x1 : Int64) (x4 : Int32), en1 100 = .inr (8, [.ref (ad 101), .ref (ad 102), .ref (ad 103), .ref (ad 104), .int mtexted, .int mundo, .long mabove, .long mbelow, .ref (ad 105), .ref (ad 106), .ref (ad 107), .ref (ad 108), .int mitems, .int mat, .int mfault, .int mtakes, .long mmisses, .long mbest, .ref (ad 109), .long mh]) → en1 104 = .inl (cs 1, 300, .inl (mtext)) → en1 105 = .inl (cs 1, 3, .inl (mrefused)) → (∀ j, (j < 100 ∨ 101 ≤ j) → (j < 104 ∨ 105 ≤ j) → (j < 105 ∨ 106 ≤ j) → en1 j = en j) → f_X11_type_L43 fu43 mtext mtexted mrefused x1 x4 = some q → G p l e ({ frames := 1, cells := 0, slots := 0, locals := 25 } : Room) s m args below meth c D n ad A 5 0 0 Q en1 43 [(0, .ref (ad 100)), (1, .long x1), (4, .int x4)] [] := by
    intro fu43
    induction fu43 with
    | zero =>
      intro en1 mtext mtexted mrefused x1 x4 e_model e_mtextarr e_mrefusedarr hfr h
      rw [f_X11_type_L43] at h
      cases h
    | succ fu43 ih43 =>
      intro en1 mtext mtexted mrefused x1 x4 e_model e_mtextarr e_mrefusedarr hfr h
      rw [f_X11_type_L43] at h
      refine G_iload hC 4 2 rfl dX11_type_43 ?_
      refine G_if_lt hC 85 dX11_type_45 (by decide) (fun c45 => ?_) (fun c45 => ?_)
      · have h := ifp c45 h
        refine G_aload_n hC 0 0 rfl rfl dX11_type_85 ?_
        refine G_get hC inX11 100 (by omega) (v := .int mtexted) e_model rfl 4 (by decide) m124 rfl rfl dX11_type_86 ?_
        have h := Option.some.inj h
        subst h
        exact Kr _ _ _ _ (nar_i _) ⟨rfl, e_model, e_mtextarr, e_mrefusedarr, hfr⟩ dX11_type_89
      have h := ifn c45 h
      refine G_aload_n hC 0 0 rfl rfl dX11_type_48 ?_
      refine G_get hC inX11 100 (by omega) (v := .ref (ad 104)) e_model rfl 3 (by decide) m21 rfl rfl dX11_type_49 ?_
      refine G_aload_n hC 0 0 rfl rfl dX11_type_52 ?_
      refine G_get hC inX11 100 (by omega) (v := .int mtexted) e_model rfl 4 (by decide) m124 rfl rfl dX11_type_53 ?_
      refine G_lload_n hC 1 1 rfl rfl dX11_type_56 ?_
      refine G_bipush hC (v := 8) (by decide) dX11_type_57 ?_
      refine G_iload hC 4 2 rfl dX11_type_59 ?_
      refine G_imul hC dX11_type_61 ?_
      refine G_lshr hC dX11_type_62 ?_
      refine G_ldc2 hC (v := (255)) k127 dX11_type_63 ?_
      refine G_land hC dX11_type_66 ?_
      refine G_l2i hC dX11_type_67 ?_
      obtain ⟨g68, h⟩ := asn h
      refine G_iast hC 104 (by omega) e_mtextarr g68 dX11_type_68 (fun en2 e_mtextarr fr => ?_)
      have e_mtextarr : en2 104 = .inl (cs 1, 300, .inl (upd mtext mtexted.toNatClampNeg (((x1 >>> (((8 : Int32) * x4).toInt64 &&& (63 : Int64))) &&& (255 : Int64)).toInt32))) := e_mtextarr
      have e_model := (fr 100 (by omega)).trans e_model
      have e_mrefusedarr := (fr 105 (by omega)).trans e_mrefusedarr
      have hfr : ∀ j, (j < 100 ∨ 101 ≤ j) → (j < 104 ∨ 105 ≤ j) → (j < 105 ∨ 106 ≤ j) → en2 j = en j := fun j o0 o1 o2 => (fr j (by omega)).trans (hfr j o0 o1 o2)
      refine G_aload_n hC 0 0 rfl rfl dX11_type_69 ?_
      refine G_dup hC rfl dX11_type_70 ?_
      refine G_get hC inX11 100 (by omega) (v := .int mtexted) e_model rfl 4 (by decide) m124 rfl rfl dX11_type_71 ?_
      refine G_iconst hC (v := 1) (by decide) dX11_type_74 ?_
      refine G_iadd hC dX11_type_75 ?_
      refine G_put hC inX11 tyX11 tyX11_ok nmX11 100 (by omega) e_model rfl 4 (by decide) m124 rfl rfl (ty := .int) rfl rfl rfl (Nat.le_of_ble_eq_true rfl) dX11_type_76 (fun en3 e_model fr => ?_)
      have e_model : en3 100 = .inr (8, [.ref (ad 101), .ref (ad 102), .ref (ad 103), .ref (ad 104), .int (mtexted + (1 : Int32)), .int mundo, .long mabove, .long mbelow, .ref (ad 105), .ref (ad 106), .ref (ad 107), .ref (ad 108), .int mitems, .int mat, .int mfault, .int mtakes, .long mmisses, .long mbest, .ref (ad 109), .long mh]) := e_model
      have e_mtextarr := (fr 104 (by omega)).trans e_mtextarr
      have e_mrefusedarr := (fr 105 (by omega)).trans e_mrefusedarr
      have hfr : ∀ j, (j < 100 ∨ 101 ≤ j) → (j < 104 ∨ 105 ≤ j) → (j < 105 ∨ 106 ≤ j) → en3 j = en j := fun j o0 o1 o2 => (fr j (by omega)).trans (hfr j o0 o1 o2)
      refine G_iinc hC 4 2 [(4, .int (x4 + (-1 : Int32))), (0, .ref (ad 100)), (1, .long x1)] rfl (congrArg (fun z => x4 + z) (by decide : Int32.ofInt (-1) = (-1 : Int32))) (by decide) rfl dX11_type_79 ?_
      refine G_goto hC 43 dX11_type_82 (by decide) ?_
      refine G_lv [1, 2, 0] rfl ?_
      exact ih43 _ _ _ _ _ _ e_model e_mtextarr e_mrefusedarr hfr h
  unfold f_X11_type at h
  have hfr : ∀ j, (j < 100 ∨ 101 ≤ j) → (j < 104 ∨ 105 ≤ j) → (j < 105 ∨ 106 ≤ j) → en j = en j := fun _ _ _ _ => rfl
  refine G_iload_n hC 3 2 rfl rfl dX11_type_0 ?_
  refine G_i2l hC dX11_type_1 ?_
  refine G_lconst hC (v := 1) (by decide) dX11_type_2 ?_
  refine G_ldc2 hC (v := (8)) k122 dX11_type_3 ?_
  obtain ⟨q6, h6, h⟩ := bnd h
  refine G_cSi (st := []) hC _ (c_X11_in  l  h6) (va_cwS 3 hC.hts gX11_type_X11_in rfl rfl rfl (by decide +kernel) ⟨Nat.le_of_ble_eq_true rfl, Nat.le_of_ble_eq_true rfl⟩) rfl (Nat.le_of_ble_eq_true rfl) (Nat.zero_le _) (Nat.zero_le _) rfl dX11_type_6 (fun r6 enx hw => ?_)
  obtain ⟨rfl, rfl⟩ := hw
  refine G_if_ne hC 19 dX11_type_9 (by decide) (fun c9 => ?_) (fun c9 => ?_)
  · have h := ifn c9 h
    refine G_aload_n hC 0 0 rfl rfl dX11_type_19 ?_
    refine G_get hC inX11 100 (by omega) (v := .int mtexted) e_model rfl 4 (by decide) m124 rfl rfl dX11_type_20 ?_
    refine G_iload_n hC 3 2 rfl rfl dX11_type_23 ?_
    refine G_iadd hC dX11_type_24 ?_
    refine G_sipush hC (v := 300) (by decide) dX11_type_25 ?_
    refine G_icmp_le hC 38 dX11_type_28 (by decide) (fun c28 => ?_) (fun c28 => ?_)
    · have h := ifp c28 h
      refine G_iload_n hC 3 2 rfl rfl dX11_type_38 ?_
      refine G_iconst hC (v := 1) (by decide) dX11_type_39 ?_
      refine G_isub hC dX11_type_40 ?_
      refine G_istore hC 4 [(4, .int (x3 - (1 : Int32))), (0, .ref (ad 100)), (1, .long x1), (3, .int x3)] (by decide) rfl dX11_type_41 ?_
      refine G_lv [1, 2, 0] rfl ?_
      exact hL43 FU _ _ _ _ _ _ e_model e_mtextarr e_mrefusedarr hfr h
    have h := ifn c28 h
    refine G_aload_n hC 0 0 rfl rfl dX11_type_31 ?_
    refine G_bipush hC (v := (-4)) (by decide) dX11_type_32 ?_
    obtain ⟨q34, h34, h⟩ := bnd h
    refine G_cVi (st := []) hC _ 100 (by omega) (c_X11_told  l (by omega) e_model e_mrefusedarr h34) (cwV 1 hC.hts gX11_type_X11_told rfl rfl rfl (by decide +kernel) ⟨Nat.le_of_ble_eq_true rfl, Nat.le_of_ble_eq_true rfl⟩) e_model rfl rfl (Nat.le_of_ble_eq_true rfl) (Nat.zero_le _) (Nat.zero_le _) rfl dX11_type_34 (fun r34 en2 hw => ?_)
    obtain ⟨rfl, e_mrefusedarr, fr⟩ := hw
    have e_model := (fr 100 (by omega)).trans e_model
    have e_mtextarr := (fr 104 (by omega)).trans e_mtextarr
    have hfr : ∀ j, (j < 100 ∨ 101 ≤ j) → (j < 104 ∨ 105 ≤ j) → (j < 105 ∨ 106 ≤ j) → en2 j = en j := fun j o0 o1 o2 => (fr j (by omega)).trans (hfr j o0 o1 o2)
    have h := Option.some.inj h
    subst h
    exact Kr _ _ _ _ (nar_i _) ⟨rfl, e_model, e_mtextarr, e_mrefusedarr, hfr⟩ dX11_type_37
  have h := ifp c9 h
  refine G_aload_n hC 0 0 rfl rfl dX11_type_12 ?_
  refine G_bipush hC (v := (-2)) (by decide) dX11_type_13 ?_
  obtain ⟨q15, h15, h⟩ := bnd h
  refine G_cVi (st := []) hC _ 100 (by omega) (c_X11_told  l (by omega) e_model e_mrefusedarr h15) (cwV 1 hC.hts gX11_type_X11_told rfl rfl rfl (by decide +kernel) ⟨Nat.le_of_ble_eq_true rfl, Nat.le_of_ble_eq_true rfl⟩) e_model rfl rfl (Nat.le_of_ble_eq_true rfl) (Nat.zero_le _) (Nat.zero_le _) rfl dX11_type_15 (fun r15 en3 hw => ?_)
  obtain ⟨rfl, e_mrefusedarr, fr⟩ := hw
  have e_model := (fr 100 (by omega)).trans e_model
  have e_mtextarr := (fr 104 (by omega)).trans e_mtextarr
  have hfr : ∀ j, (j < 100 ∨ 101 ≤ j) → (j < 104 ∨ 105 ≤ j) → (j < 105 ∨ 106 ≤ j) → en3 j = en j := fun j o0 o1 o2 => (fr j (by omega)).trans (hfr j o0 o1 o2)
  have h := Option.some.inj h
  subst h
  exact Kr _ _ _ _ (nar_i _) ⟨rfl, e_model, e_mtextarr, e_mrefusedarr, hfr⟩ dX11_type_18
def f_X11_clear (mtexted : Int32)  : Option (Int32 × Int32) := some (mtexted, (0 : Int32))
set_option maxHeartbeats 4000000 in
set_option maxRecDepth 100000 in
theorem c_X11_clear {D : va_G} {cs : Nat → ClassId} {sa : Nat → Nat} {n : Nat} {ad : Nat → Nat} {A : Nat → Prop} (l : Launch) {en : Nat → va_E}  {mtexted : Int32} {mundo : Int32} {mabove : Int64} {mbelow : Int64} {mitems : Int32} {mat : Int32} {mfault : Int32} {mtakes : Int32} {mmisses : Int64} {mbest : Int64} {mh : Int64}   {q : Int32 × Int32} (hn : 110 ≤ n) (e_model : en 100 = .inr (8, [.ref (ad 101), .ref (ad 102), .ref (ad 103), .ref (ad 104), .int mtexted, .int mundo, .long mabove, .long mbelow, .ref (ad 105), .ref (ad 106), .ref (ad 107), .ref (ad 108), .int mitems, .int mat, .int mfault, .int mtakes, .long mmisses, .long mbest, .ref (ad 109), .long mh])) (h : f_X11_clear mtexted = some q) : Met l yX11_clear wsX11_clear { frames := 0, cells := 0, slots := 0, locals := 0 } (va_Pc [.ref (ad 100)] (Wd D cs sa n ad A en)) (va_Qi (fun r u => q.1 = r ∧ u 100 = .inr (8, [.ref (ad 101), .ref (ad 102), .ref (ad 103), .ref (ad 104), .int q.2, .int mundo, .long mabove, .long mbelow, .ref (ad 105), .ref (ad 106), .ref (ad 107), .ref (ad 108), .int mitems, .int mat, .int mfault, .int mtakes, .long mmisses, .long mbest, .ref (ad 109), .long mh]) ∧ (∀ j, (j < 100 ∨ 101 ≤ j) → u j = en j)) (Wd D cs sa n ad A) A) 0 0 A := by
  refine G_startI cX11_clear 2 [(0, .ref (ad 100))] (by decide) rfl (Nat.le_of_ble_eq_true rfl) rfl ?_
  intro p e s m args below meth c Q hC hnm Kr
  have inX11 : ∀ w ∈ u_ws RX11 TX11 20, w ∈ wsX11_clear := by decide +kernel
  have m124 : Cond.fieldLink RX11 124 "TongueTipModel" "texted" "I" ∈ wsX11_clear := by decide +kernel
  unfold f_X11_clear at h
  have hfr : ∀ j, (j < 100 ∨ 101 ≤ j) → en j = en j := fun _ _ => rfl
  refine G_aload_n hC 0 0 rfl rfl dX11_clear_0 ?_
  refine G_get hC inX11 100 (by omega) (v := .int mtexted) e_model rfl 4 (by decide) m124 rfl rfl dX11_clear_1 ?_
  refine G_istore_n hC 1 [(1, .int mtexted), (0, .ref (ad 100))] rfl (by decide) rfl dX11_clear_4 ?_
  refine G_aload_n hC 0 1 rfl rfl dX11_clear_5 ?_
  refine G_iconst hC (v := 0) (by decide) dX11_clear_6 ?_
  refine G_put hC inX11 tyX11 tyX11_ok nmX11 100 (by omega) e_model rfl 4 (by decide) m124 rfl rfl (ty := .int) rfl rfl rfl (Nat.le_of_ble_eq_true rfl) dX11_clear_7 (fun en2 e_model fr => ?_)
  have e_model : en2 100 = .inr (8, [.ref (ad 101), .ref (ad 102), .ref (ad 103), .ref (ad 104), .int (0 : Int32), .int mundo, .long mabove, .long mbelow, .ref (ad 105), .ref (ad 106), .ref (ad 107), .ref (ad 108), .int mitems, .int mat, .int mfault, .int mtakes, .long mmisses, .long mbest, .ref (ad 109), .long mh]) := e_model
  have hfr : ∀ j, (j < 100 ∨ 101 ≤ j) → en2 j = en j := fun j o0 => (fr j (by omega)).trans (hfr j o0)
  refine G_iload_n hC 1 0 rfl rfl dX11_clear_10 ?_
  have h := Option.some.inj h
  subst h
  exact Kr _ _ _ _ (nar_i _) ⟨rfl, e_model, hfr⟩ dX11_clear_11
