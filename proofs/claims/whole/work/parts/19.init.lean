def f_X7_hasDigit_B29  (rL6 : Int32 → Int32 → Int32 → Int32 → Option (Int32)) (x0 : Int32) (x1 : Int32) (x3 : Int32) (s0 : Int32) : Option (Int32) := rL6 x0 x1 s0 (x3 / (10 : Int32))
def f_X7_hasDigit_B24  (rL6 : Int32 → Int32 → Int32 → Int32 → Option (Int32)) (x0 : Int32) (x1 : Int32) (x3 : Int32) : Option (Int32) := f_X7_hasDigit_B29 rL6 x0 x1 x3 (1 : Int32)
def f_X7_hasDigit_L6   : Nat → Int32 → Int32 → Int32 → Int32 → Option (Int32)
  | 0, _, _, _, _ => none
  | fu + 1, x0, x1, x2, x3 => if x3 ≤ 0 then (if x2 = 0 ∨ x2 = 1 then (some x2) else none) else (if x2 = 0 then (if x3 = 0 then none else (if irm (x0 / x3) (10 : Int32) = x1 then (f_X7_hasDigit_B24 (f_X7_hasDigit_L6 fu) x0 x1 x3) else (f_X7_hasDigit_B29 (f_X7_hasDigit_L6 fu) x0 x1 x3 (0 : Int32)))) else (f_X7_hasDigit_B24 (f_X7_hasDigit_L6 fu) x0 x1 x3))
def f_X7_hasDigit  (x0 : Int32) (x1 : Int32) : Option (Int32) := f_X7_hasDigit_L6 FU x0 x1 (0 : Int32) (10000 : Int32)
set_option maxHeartbeats 4000000 in
set_option maxRecDepth 100000 in
theorem c_X7_hasDigit {D : va_G} {cs : Nat → ClassId} {sa : Nat → Nat} {n : Nat} {ad : Nat → Nat} {A : Nat → Prop} (l : Launch) {en : Nat → va_E}   {x0 : Int32} {x1 : Int32}  {q : Int32}   (h : f_X7_hasDigit x0 x1 = some q) : Met l yX7_hasDigit wsX7_hasDigit { frames := 0, cells := 0, slots := 0, locals := 0 } (va_Pc [.int x0, .int x1] (Wd D cs sa n ad A en)) (va_Qi (fun r u => q = r ∧ en = u) (Wd D cs sa n ad A) A) 0 0 A := by
  refine G_startI cX7_hasDigit 4 [(0, .int x0), (1, .int x1)] (by decide) rfl (Nat.le_of_ble_eq_true rfl) rfl ?_
  intro p e s m args below meth c Q hC hnm Kr
  have hL6 : ∀ (fu6 : Nat), ∀ (x0 : Int32) (x1 : Int32) (x2 : Int32) (x3 : Int32), f_X7_hasDigit_L6 fu6 x0 x1 x2 x3 = some q → G p l e ({ frames := 0, cells := 0, slots := 0, locals := 0 } : Room) s m args below meth c D n ad A 4 0 0 Q en 6 [(0, .int x0), (1, .int x1), (2, .int x2), (3, .int x3)] [] := by
    intro fu6
    induction fu6 with
    | zero =>
      intro x0 x1 x2 x3 h
      rw [f_X7_hasDigit_L6] at h
      cases h
    | succ fu6 ih6 =>
      have hB29 : ∀ (x0 : Int32) (x1 : Int32) (x3 : Int32) (s0 : Int32), f_X7_hasDigit_B29 (f_X7_hasDigit_L6 fu6) x0 x1 x3 s0 = some q → G p l e ({ frames := 0, cells := 0, slots := 0, locals := 0 } : Room) s m args below meth c D n ad A 4 0 0 Q en 29 [(0, .int x0), (1, .int x1), (3, .int x3)] [.int s0] := by
        intro x0 x1 x3 s0 h
        unfold f_X7_hasDigit_B29 at h
        refine G_istore_n hC 2 [(2, .int s0), (0, .int x0), (1, .int x1), (3, .int x3)] rfl (by decide) rfl dX7_hasDigit_29 ?_
        refine G_iload_n hC 3 3 rfl rfl dX7_hasDigit_30 ?_
        refine G_bipush hC (v := 10) (by decide) dX7_hasDigit_31 ?_
        refine G_idiv hC (by decide) dX7_hasDigit_33 ?_
        refine G_istore_n hC 3 [(3, .int (x3 / (10 : Int32))), (2, .int s0), (0, .int x0), (1, .int x1)] rfl (by decide) rfl dX7_hasDigit_34 ?_
        refine G_goto hC 6 dX7_hasDigit_35 (by decide) ?_
        refine G_lv [2, 3, 1, 0] rfl ?_
        exact ih6 _ _ _ _ h
      have hB24 : ∀ (x0 : Int32) (x1 : Int32) (x3 : Int32), f_X7_hasDigit_B24 (f_X7_hasDigit_L6 fu6) x0 x1 x3 = some q → G p l e ({ frames := 0, cells := 0, slots := 0, locals := 0 } : Room) s m args below meth c D n ad A 4 0 0 Q en 24 [(0, .int x0), (1, .int x1), (3, .int x3)] [] := by
        intro x0 x1 x3 h
        unfold f_X7_hasDigit_B24 at h
        refine G_iconst hC (v := 1) (by decide) dX7_hasDigit_24 ?_
        refine G_goto hC 29 dX7_hasDigit_25 (by decide) ?_
        refine G_lv [0, 1, 2] rfl ?_
        exact hB29 _ _ _ _ h
      intro x0 x1 x2 x3 h
      rw [f_X7_hasDigit_L6] at h
      refine G_iload_n hC 3 3 rfl rfl dX7_hasDigit_6 ?_
      refine G_if_le hC 38 dX7_hasDigit_7 (by decide) (fun c7 => ?_) (fun c7 => ?_)
      · have h := ifp c7 h
        refine G_iload_n hC 2 2 rfl rfl dX7_hasDigit_38 ?_
        obtain ⟨g39, h⟩ := asr h
        have h := Option.some.inj h
        subst h
        exact Kr _ _ _ _ (nar_b g39) ⟨rfl, rfl⟩ dX7_hasDigit_39
      have h := ifn c7 h
      refine G_iload_n hC 2 2 rfl rfl dX7_hasDigit_10 ?_
      refine G_if_ne hC 24 dX7_hasDigit_11 (by decide) (fun c11 => ?_) (fun c11 => ?_)
      · have h := ifn c11 h
        refine G_lv [0, 1, 3] rfl ?_
        exact hB24 _ _ _ h
      have h := ifp c11 h
      refine G_iload_n hC 0 0 rfl rfl dX7_hasDigit_14 ?_
      refine G_iload_n hC 3 3 rfl rfl dX7_hasDigit_15 ?_
      obtain ⟨g16, h⟩ := asn h
      refine G_idiv hC g16 dX7_hasDigit_16 ?_
      refine G_bipush hC (v := 10) (by decide) dX7_hasDigit_17 ?_
      refine G_irem hC (by decide) dX7_hasDigit_19 ?_
      refine G_iload_n hC 1 1 rfl rfl dX7_hasDigit_20 ?_
      refine G_icmp_ne hC 28 dX7_hasDigit_21 (by decide) (fun c21 => ?_) (fun c21 => ?_)
      · have h := ifn c21 h
        refine G_iconst hC (v := 0) (by decide) dX7_hasDigit_28 ?_
        refine G_lv [0, 1, 3] rfl ?_
        exact hB29 _ _ _ _ h
      have h := ifp c21 h
      refine G_lv [0, 1, 3] rfl ?_
      exact hB24 _ _ _ h
  unfold f_X7_hasDigit at h
  refine G_iconst hC (v := 0) (by decide) dX7_hasDigit_0 ?_
  refine G_istore_n hC 2 [(2, .int (0 : Int32)), (0, .int x0), (1, .int x1)] rfl (by decide) rfl dX7_hasDigit_1 ?_
  refine G_sipush hC (v := 10000) (by decide) dX7_hasDigit_2 ?_
  refine G_istore_n hC 3 [(3, .int (10000 : Int32)), (2, .int (0 : Int32)), (0, .int x0), (1, .int x1)] rfl (by decide) rfl dX7_hasDigit_5 ?_
  refine G_lv [2, 3, 1, 0] rfl ?_
  exact hL6 FU _ _ _ _ h
set_option maxHeartbeats 4000000 in
set_option maxRecDepth 100000 in
theorem c_X8_init {D : va_G} {cs : Nat → ClassId} {sa : Nat → Nat} {ad : Nat → Nat} {A : Nat → Prop} (l : Launch) {en : Nat → va_E} {pp : Nat} {x1 x2 : Int32} {N : Nat} (hN : (imax 0 (x1 * x2)).toNatClampNeg = N) (hz0 : ¬ imax 0 (x1 * x2) < 0) (hNb : N * componentBytes .long ≤ 536870912) (e_pp : en pp = .inr (5, [.int 0, .int 0, .null, .int 0])) : Met l yX8_init wsX8_init { frames := 1, cells := 1, slots := (0 + N), locals := 21 } (va_Pc [.ref (ad pp), .int x1, .int x2] (WdA D cs sa (pp + 1) ad A en)) (va_Qv (fun (u : (Nat → Nat) × (Nat → va_E)) => (∀ j, j < pp + 1 → u.1 j = ad j) ∧ u.2 pp = .inr (5, [.int x2, .int x1, .ref (u.1 (pp + 1)), .int 0]) ∧ u.2 (pp + 1) = .inl (cs 2, N, .inr (.inl (fun _ => 0))) ∧ (∀ j, j < pp + 1 → j ≠ pp → u.2 j = en j)) (fun (u : (Nat → Nat) × (Nat → va_E)) => Wd D cs sa (pp + 2) u.1 A u.2) A) 1 (0 + N) A := by
  refine G_startA cX8_init 3 [(0, .ref (ad pp)), (1, .int x1), (2, .int x2)] (by decide) rfl (Nat.le_of_ble_eq_true rfl) rfl ?_
  intro p e s m args below meth c Q hC hnm hA hO Kr
  have inX8 : ∀ w ∈ u_ws RX8 TX8 4, w ∈ wsX8_init := by decide +kernel
  have a_long : Cond.arrayClass .long ∈ wsX8_init := by decide +kernel
  have m15 : Cond.fieldLink RX8 15 "TongueTip$Table" "width" "I" ∈ wsX8_init := by decide +kernel
  have m24 : Cond.fieldLink RX8 24 "TongueTip$Table" "cells" "[J" ∈ wsX8_init := by decide +kernel
  have m9 : Cond.fieldLink RX8 9 "TongueTip$Table" "most" "I" ∈ wsX8_init := by decide +kernel
  have oi1 : Cond.methodLink RX8 3 Lib.objectInit ∈ wsX8_init := by decide +kernel
  have oi2 : Cond.instanceMethod Lib.objectInit ∈ wsX8_init := by decide +kernel
  have oi3 : Cond.code Lib.objectInit ⟨#[0xb1]⟩ 1 none ∈ wsX8_init := by decide +kernel
  have x18 : Cond.methodLink RX8 18 Lib.Math.max.name ∈ wsX8_init := by decide +kernel
  have xcmax : Cond.code Lib.Math.max.name Lib.Math.max.code 2 (some .int) ∈ wsX8_init := by decide +kernel
  have xi : Cond.initialized "java/lang/Math" ∈ wsX8_init := by decide +kernel
  have xsmax : Cond.static Lib.Math.max.name ∈ wsX8_init := by decide +kernel
  have hadT : ∀ j, j < pp + 1 → ad j = ad j := fun _ _ => rfl
  have henT : ∀ j, j < pp + 1 → j ≠ pp → en j = en j := fun _ _ _ => rfl
  have hsl0 : 0 + N ≤ 0 + N := Nat.le_refl _
  refine G_aload_n hC 0 0 rfl rfl dX8_init_0 ?_
  refine G_objInit hC oi1 oi2 oi3 (Nat.le_of_ble_eq_true rfl) (Nat.le_of_ble_eq_true rfl) dX8_init_1 ?_
  refine G_aload_n hC 0 0 rfl rfl dX8_init_4 ?_
  refine G_iload_n hC 1 1 rfl rfl dX8_init_5 ?_
  refine G_putF hC inX8 tyX8 tyX8_ok nmX8 pp (by omega) e_pp rfl 1 (by decide) m9 rfl rfl hnm rfl (ty := .int) rfl rfl rfl (Nat.le_of_ble_eq_true rfl) dX8_init_6 (fun en2 e_pp fr => ?_)
  have e_pp : en2 pp = .inr (5, [.int 0, .int x1, .null, .int 0]) := e_pp
  have henT : ∀ j, j < pp + 1 → j ≠ pp → en2 j = en j := fun j hj hj2 => (fr j (by omega)).trans (henT j hj hj2)
  refine G_aload_n hC 0 0 rfl rfl dX8_init_9 ?_
  refine G_iload_n hC 2 2 rfl rfl dX8_init_10 ?_
  refine G_putF hC inX8 tyX8 tyX8_ok nmX8 pp (by omega) e_pp rfl 0 (by decide) m15 rfl rfl hnm rfl (ty := .int) rfl rfl rfl (Nat.le_of_ble_eq_true rfl) dX8_init_11 (fun en3 e_pp fr => ?_)
  have e_pp : en3 pp = .inr (5, [.int x2, .int x1, .null, .int 0]) := e_pp
  have henT : ∀ j, j < pp + 1 → j ≠ pp → en3 j = en j := fun j hj hj2 => (fr j (by omega)).trans (henT j hj hj2)
  refine G_aload_n hC 0 0 rfl rfl dX8_init_14 ?_
  refine G_iconst hC (v := 0) (by decide) dX8_init_15 ?_
  refine G_iload_n hC 1 1 rfl rfl dX8_init_16 ?_
  refine G_iload_n hC 2 2 rfl rfl dX8_init_17 ?_
  refine G_imul hC dX8_init_18 ?_
  refine G_mmax hC x18 xsmax xi xcmax (Nat.le_of_ble_eq_true rfl) (Nat.le_of_ble_eq_true rfl) (Nat.zero_le _) (Nat.zero_le _) dX8_init_19 ?_
  refine G_newa hC hA (atype := .long) 2 (N, .inr (.inl (fun _ => 0))) a_long rfl rfl (fun cA => by first | rfl | exact vp_newI | exact vp_newL | (simp [vp_cell]; rfl)) hz0 hN hNb (Nat.le_of_ble_eq_true rfl) hsl0 dX8_init_22 (fun ad en4 had hen e_new hC => ?_)
  have e_pp : en4 pp = .inr (5, [.int x2, .int x1, .null, .int 0]) := by rw [hen pp (by omega)]; exact e_pp
  have hadT : ∀ j, j < pp + 1 → ad j = _ := fun j hj => (had j (by omega)).trans (hadT j hj)
  have henT : ∀ j, j < pp + 1 → j ≠ pp → en4 j = en j := fun j hj hj2 => (hen j (by omega)).trans (henT j hj hj2)
  have e_pp_1 : en4 (pp + 1) = .inl (cs 2, N, .inr (.inl (fun _ => 0))) := e_new
  refine G_eq (lv' := [(0, .ref (ad pp)), (1, .int x1), (2, .int x2)]) (st' := [.ref (ad (pp + 1)), .ref (ad pp)]) (by rw [had pp (by omega)]) (by rw [had pp (by omega)]) (fun _ _ => rfl) ?_
  refine G_putF hC inX8 tyX8 tyX8_ok nmX8 pp (by omega) e_pp rfl 2 (by decide) m24 rfl rfl hnm rfl (ty := .array .long) rfl rfl rfl (Nat.le_of_ble_eq_true rfl) dX8_init_24 (fun en5 e_pp fr => ?_)
  have e_pp : en5 pp = .inr (5, [.int x2, .int x1, .ref (ad (pp + 1)), .int 0]) := e_pp
  have e_pp_1 := (fr (pp + 1) (by omega)).trans e_pp_1
  have henT : ∀ j, j < pp + 1 → j ≠ pp → en5 j = en j := fun j hj hj2 => (fr j (by omega)).trans (henT j hj hj2)
  exact Kr ad _ _ _ hC ⟨hadT, e_pp, e_pp_1, henT⟩ dX8_init_27
theorem Hall.mk {cs : Nat → ClassId} {ad : Nat → Nat} {en : Nat → va_E} {k : Nat} (e0 : en k = hallE cs ad k hall00 0) (e1 : en (k + 1) = hallE cs ad k hall00 1) (e2 : en (k + 2) = hallE cs ad k hall00 2) (e3 : en (k + 3) = hallE cs ad k hall00 3) (e4 : en (k + 4) = hallE cs ad k hall00 4) (e5 : en (k + 5) = hallE cs ad k hall00 5) (e6 : en (k + 6) = hallE cs ad k hall00 6) (e7 : en (k + 7) = hallE cs ad k hall00 7) (e8 : en (k + 8) = hallE cs ad k hall00 8) (e9 : en (k + 9) = hallE cs ad k hall00 9) (e10 : en (k + 10) = hallE cs ad k hall00 10) : Hall cs ad en k hall00 := by
  intro j hj
  match j, hj with
  | 0, _ => exact e0
  | 1, _ => exact e1
  | 2, _ => exact e2
  | 3, _ => exact e3
  | 4, _ => exact e4
  | 5, _ => exact e5
  | 6, _ => exact e6
  | 7, _ => exact e7
  | 8, _ => exact e8
  | 9, _ => exact e9
  | 10, _ => exact e10
def f_X1_init   : Option (HallV) := Option.bind (f_X8_addRow (1 : Int32) (hall00.1 3)) (fun q77 => Option.bind (f_X8_addRow (1 : Int32) ((hsR hall00 3 q77.2).1 4)) (fun q85 => Option.bind (f_X1_begin (hsR (hsR hall00 3 q77.2) 4 q85.2)) (fun q90 => some q90)))
set_option maxHeartbeats 4000000 in
set_option maxRecDepth 100000 in
theorem c_X1_init {D : va_G} {cs : Nat → ClassId} {sa : Nat → Nat} {ad : Nat → Nat} {A : Nat → Prop} (l : Launch) {en : Nat → va_E} {kk : Nat} {q : HallV} (e_kk : en kk = .inr (0, [.null, .null, .null, .null, .null, .int 0])) (h : f_X1_init = some q) : Met l yX1_init wsX1_init { frames := 2, cells := 10, slots := 144, locals := 46 } (va_Pc [.ref (ad kk)] (WdA D cs sa (kk + 1) ad A en)) (va_Qv (fun (u : (Nat → Nat) × (Nat → va_E)) => (∀ j, j < kk + 1 → u.1 j = ad j) ∧ Hall cs u.1 u.2 kk q ∧ (∀ j, j < kk + 1 → j ≠ kk → u.2 j = en j)) (fun (u : (Nat → Nat) × (Nat → va_E)) => Wd D cs sa (kk + 11) u.1 A u.2) A) 10 144 A := by
  refine G_startA cX1_init 1 [(0, .ref (ad kk))] (by decide) rfl (Nat.le_of_ble_eq_true rfl) rfl ?_
  intro p e s m args below meth c Q hC hnm hA hO Kr
  have inX1 : ∀ w ∈ u_ws RX1 TX1 6, w ∈ wsX1_init := by decide +kernel
  have inX8 : ∀ w ∈ u_ws RX8 TX8 4, w ∈ wsX1_init := by decide +kernel
  have i13 : Cond.methodLink RX1 13 yX8_init ∈ wsX1_init := by decide +kernel
  have iiX8_init : Cond.instanceMethod yX8_init ∈ wsX1_init := by decide +kernel
  have m16 : Cond.fieldLink RX1 16 "TongueTip$Hall" "people" "LTongueTip$Table;" ∈ wsX1_init := by decide +kernel
  have m20 : Cond.fieldLink RX1 20 "TongueTip$Hall" "tries" "LTongueTip$Table;" ∈ wsX1_init := by decide +kernel
  have m23 : Cond.fieldLink RX1 23 "TongueTip$Hall" "questions" "LTongueTip$Table;" ∈ wsX1_init := by decide +kernel
  have m26 : Cond.fieldLink RX1 26 "TongueTip$Hall" "settings" "LTongueTip$Table;" ∈ wsX1_init := by decide +kernel
  have m29 : Cond.fieldLink RX1 29 "TongueTip$Hall" "known" "LTongueTip$Table;" ∈ wsX1_init := by decide +kernel
  have oi1 : Cond.methodLink RX1 3 Lib.objectInit ∈ wsX1_init := by decide +kernel
  have oi2 : Cond.instanceMethod Lib.objectInit ∈ wsX1_init := by decide +kernel
  have oi3 : Cond.code Lib.objectInit ⟨#[0xb1]⟩ 1 none ∈ wsX1_init := by decide +kernel
  have q9 : Cond.classLink RX1 9 RX8 ∈ wsX1_init := by decide +kernel
  have qiX8 : Cond.instantiable RX8 4 ∈ wsX1_init := by decide +kernel
  have qnX8 : Cond.initialized RX8 ∈ wsX1_init := by decide +kernel
  have hadT : ∀ j, j < kk + 1 → ad j = ad j := fun _ _ => rfl
  have henT : ∀ j, j < kk + 1 → j ≠ kk → en j = en j := fun _ _ _ => rfl
  refine G_aload_n hC 0 0 rfl rfl dX1_init_0 ?_
  refine G_objInit hC oi1 oi2 oi3 (Nat.le_of_ble_eq_true rfl) (Nat.le_of_ble_eq_true rfl) dX1_init_1 ?_
  refine G_aload_n hC 0 0 rfl rfl dX1_init_4 ?_
  refine G_newo hC hA (ci := 5) [.int 0, .int 0, .null, .int 0] inX8 tyX8 tyX8_ok q9 qiX8 qnX8 rfl (fun j hj => by rcases (show j = 0 ∨ j = 1 ∨ j = 2 ∨ j = 3 by omega) with rfl | rfl | rfl | rfl <;> rfl) (Nat.le_of_ble_eq_true rfl) (Nat.le_of_ble_eq_true rfl) dX1_init_5 (fun ad en2 had hen e_new hC => ?_)
  have e_kk : en2 kk = .inr (0, [.null, .null, .null, .null, .null, .int 0]) := by rw [hen kk (by omega)]; exact e_kk
  have hadT : ∀ j, j < kk + 1 → ad j = _ := fun j hj => (had j (by omega)).trans (hadT j hj)
  have henT : ∀ j, j < kk + 1 → j ≠ kk → en2 j = en j := fun j hj hj2 => (hen j (by omega)).trans (henT j hj hj2)
  have e_kk_1 : en2 (kk + 1) = .inr (5, [.int 0, .int 0, .null, .int 0]) := e_new
  refine G_eq (lv' := [(0, .ref (ad kk))]) (st' := [.ref (ad (kk + 1)), .ref (ad kk)]) (by rw [had kk (by omega)]) (by rw [had kk (by omega)]) (fun _ _ => rfl) ?_
  refine G_dup hC rfl dX1_init_8 ?_
  refine G_bipush hC (v := 12) (by decide) dX1_init_9 ?_
  refine G_bipush hC (v := 7) (by decide) dX1_init_11 ?_
  refine G_cA (st := [.ref (ad (kk + 1)), .ref (ad kk)]) hC hA hO _ (kk + 1) (c_X8_init (pp := kk + 1) (x1 := 12) (x2 := 7) (N := 84) l (by decide) (by decide) (by decide) e_kk_1) (cwI 2 hC.hts gX1_init_X8_init rfl rfl rfl (hC.hts _ qnX8) (hC.hts _ i13) (hC.hts _ iiX8_init) rfl (by decide +kernel) ⟨Nat.le_of_ble_eq_true rfl, Nat.le_of_ble_eq_true rfl⟩) rfl (Nat.le_of_ble_eq_true rfl) (Nat.le_of_ble_eq_true rfl) (Nat.le_of_ble_eq_true rfl) rfl dX1_init_13 (fun ad en3 hw hC => ?_)
  dsimp only at hw
  obtain ⟨had, e1, e2, hen⟩ := hw
  have hen : ∀ j, j < kk + 1 + 1 → j ≠ kk + 1 → en3 j = _ := hen
  have e_kk : en3 kk = .inr (0, [.null, .null, .null, .null, .null, .int 0]) := by rw [hen kk (by omega) (by omega)]; exact e_kk
  have hadT : ∀ j, j < kk + 1 → ad j = _ := fun j hj => (had j (by omega)).trans (hadT j hj)
  have henT : ∀ j, j < kk + 1 → j ≠ kk → en3 j = en j := fun j hj hj2 => (hen j (by omega) (by omega)).trans (henT j hj hj2)
  have e_kk_1 : en3 (kk + 1) = .inr (5, [.int 7, .int 12, .ref (ad (kk + 2)), .int 0]) := e1
  have e_kk_2 : en3 (kk + 2) = .inl (cs 2, 84, .inr (.inl (fun _ => 0))) := e2
  refine G_eq (lv' := [(0, .ref (ad kk))]) (st' := [.ref (ad (kk + 1)), .ref (ad kk)]) (by rw [had kk (by omega)]) (by rw [had (kk + 1) (by omega), had kk (by omega)]) (fun _ _ => rfl) ?_
  refine G_putF hC inX1 tyX1 tyX1_ok nmX1 kk (by omega) e_kk rfl 0 (by decide) m16 rfl rfl hnm rfl (ty := .object "TongueTip$Table") rfl rfl rfl (Nat.le_of_ble_eq_true rfl) dX1_init_16 (fun en4 e_kk fr => ?_)
  have e_kk : en4 kk = .inr (0, [.ref (ad (kk + 1)), .null, .null, .null, .null, .int 0]) := e_kk
  have e_kk_1 := (fr (kk + 1) (by omega)).trans e_kk_1
  have e_kk_2 := (fr (kk + 2) (by omega)).trans e_kk_2
  have henT : ∀ j, j < kk + 1 → j ≠ kk → en4 j = en j := fun j hj hj2 => (fr j (by omega)).trans (henT j hj hj2)
  refine G_aload_n hC 0 0 rfl rfl dX1_init_19 ?_
  refine G_newo hC hA (ci := 5) [.int 0, .int 0, .null, .int 0] inX8 tyX8 tyX8_ok q9 qiX8 qnX8 rfl (fun j hj => by rcases (show j = 0 ∨ j = 1 ∨ j = 2 ∨ j = 3 by omega) with rfl | rfl | rfl | rfl <;> rfl) (Nat.le_of_ble_eq_true rfl) (Nat.le_of_ble_eq_true rfl) dX1_init_20 (fun ad en5 had hen e_new hC => ?_)
  have e_kk : en5 kk = .inr (0, [.ref (ad (kk + 1)), .null, .null, .null, .null, .int 0]) := by rw [hen kk (by omega), had (kk + 1) (by omega)]; exact e_kk
  have e_kk_1 : en5 (kk + 1) = .inr (5, [.int 7, .int 12, .ref (ad (kk + 2)), .int 0]) := by rw [hen (kk + 1) (by omega), had (kk + 2) (by omega)]; exact e_kk_1
  have e_kk_2 : en5 (kk + 2) = .inl (cs 2, 84, .inr (.inl (fun _ => 0))) := by rw [hen (kk + 2) (by omega)]; exact e_kk_2
  have hadT : ∀ j, j < kk + 1 → ad j = _ := fun j hj => (had j (by omega)).trans (hadT j hj)
  have henT : ∀ j, j < kk + 1 → j ≠ kk → en5 j = en j := fun j hj hj2 => (hen j (by omega)).trans (henT j hj hj2)
  have e_kk_3 : en5 (kk + 3) = .inr (5, [.int 0, .int 0, .null, .int 0]) := e_new
  refine G_eq (lv' := [(0, .ref (ad kk))]) (st' := [.ref (ad (kk + 3)), .ref (ad kk)]) (by rw [had kk (by omega)]) (by rw [had kk (by omega)]) (fun _ _ => rfl) ?_
  refine G_dup hC rfl dX1_init_23 ?_
  refine G_iconst hC (v := 5) (by decide) dX1_init_24 ?_
  refine G_iconst hC (v := 3) (by decide) dX1_init_25 ?_
  refine G_cA (st := [.ref (ad (kk + 3)), .ref (ad kk)]) hC hA hO _ (kk + 3) (c_X8_init (pp := kk + 3) (x1 := 5) (x2 := 3) (N := 15) l (by decide) (by decide) (by decide) e_kk_3) (cwI 2 hC.hts gX1_init_X8_init rfl rfl rfl (hC.hts _ qnX8) (hC.hts _ i13) (hC.hts _ iiX8_init) rfl (by decide +kernel) ⟨Nat.le_of_ble_eq_true rfl, Nat.le_of_ble_eq_true rfl⟩) rfl (Nat.le_of_ble_eq_true rfl) (Nat.le_of_ble_eq_true rfl) (Nat.le_of_ble_eq_true rfl) rfl dX1_init_26 (fun ad en6 hw hC => ?_)
  dsimp only at hw
  obtain ⟨had, e1, e2, hen⟩ := hw
  have hen : ∀ j, j < kk + 3 + 1 → j ≠ kk + 3 → en6 j = _ := hen
  have e_kk : en6 kk = .inr (0, [.ref (ad (kk + 1)), .null, .null, .null, .null, .int 0]) := by rw [hen kk (by omega) (by omega), had (kk + 1) (by omega)]; exact e_kk
  have e_kk_1 : en6 (kk + 1) = .inr (5, [.int 7, .int 12, .ref (ad (kk + 2)), .int 0]) := by rw [hen (kk + 1) (by omega) (by omega), had (kk + 2) (by omega)]; exact e_kk_1
  have e_kk_2 : en6 (kk + 2) = .inl (cs 2, 84, .inr (.inl (fun _ => 0))) := by rw [hen (kk + 2) (by omega) (by omega)]; exact e_kk_2
  have hadT : ∀ j, j < kk + 1 → ad j = _ := fun j hj => (had j (by omega)).trans (hadT j hj)
  have henT : ∀ j, j < kk + 1 → j ≠ kk → en6 j = en j := fun j hj hj2 => (hen j (by omega) (by omega)).trans (henT j hj hj2)
  have e_kk_3 : en6 (kk + 3) = .inr (5, [.int 3, .int 5, .ref (ad (kk + 4)), .int 0]) := e1
  have e_kk_4 : en6 (kk + 4) = .inl (cs 2, 15, .inr (.inl (fun _ => 0))) := e2
  refine G_eq (lv' := [(0, .ref (ad kk))]) (st' := [.ref (ad (kk + 3)), .ref (ad kk)]) (by rw [had kk (by omega)]) (by rw [had (kk + 3) (by omega), had kk (by omega)]) (fun _ _ => rfl) ?_
  refine G_putF hC inX1 tyX1 tyX1_ok nmX1 kk (by omega) e_kk rfl 1 (by decide) m20 rfl rfl hnm rfl (ty := .object "TongueTip$Table") rfl rfl rfl (Nat.le_of_ble_eq_true rfl) dX1_init_29 (fun en7 e_kk fr => ?_)
  have e_kk : en7 kk = .inr (0, [.ref (ad (kk + 1)), .ref (ad (kk + 3)), .null, .null, .null, .int 0]) := e_kk
  have e_kk_1 := (fr (kk + 1) (by omega)).trans e_kk_1
  have e_kk_2 := (fr (kk + 2) (by omega)).trans e_kk_2
  have e_kk_3 := (fr (kk + 3) (by omega)).trans e_kk_3
  have e_kk_4 := (fr (kk + 4) (by omega)).trans e_kk_4
  have henT : ∀ j, j < kk + 1 → j ≠ kk → en7 j = en j := fun j hj hj2 => (fr j (by omega)).trans (henT j hj hj2)
  refine G_aload_n hC 0 0 rfl rfl dX1_init_32 ?_
  refine G_newo hC hA (ci := 5) [.int 0, .int 0, .null, .int 0] inX8 tyX8 tyX8_ok q9 qiX8 qnX8 rfl (fun j hj => by rcases (show j = 0 ∨ j = 1 ∨ j = 2 ∨ j = 3 by omega) with rfl | rfl | rfl | rfl <;> rfl) (Nat.le_of_ble_eq_true rfl) (Nat.le_of_ble_eq_true rfl) dX1_init_33 (fun ad en8 had hen e_new hC => ?_)
  have e_kk : en8 kk = .inr (0, [.ref (ad (kk + 1)), .ref (ad (kk + 3)), .null, .null, .null, .int 0]) := by rw [hen kk (by omega), had (kk + 1) (by omega), had (kk + 3) (by omega)]; exact e_kk
  have e_kk_1 : en8 (kk + 1) = .inr (5, [.int 7, .int 12, .ref (ad (kk + 2)), .int 0]) := by rw [hen (kk + 1) (by omega), had (kk + 2) (by omega)]; exact e_kk_1
  have e_kk_2 : en8 (kk + 2) = .inl (cs 2, 84, .inr (.inl (fun _ => 0))) := by rw [hen (kk + 2) (by omega)]; exact e_kk_2
  have e_kk_3 : en8 (kk + 3) = .inr (5, [.int 3, .int 5, .ref (ad (kk + 4)), .int 0]) := by rw [hen (kk + 3) (by omega), had (kk + 4) (by omega)]; exact e_kk_3
  have e_kk_4 : en8 (kk + 4) = .inl (cs 2, 15, .inr (.inl (fun _ => 0))) := by rw [hen (kk + 4) (by omega)]; exact e_kk_4
  have hadT : ∀ j, j < kk + 1 → ad j = _ := fun j hj => (had j (by omega)).trans (hadT j hj)
  have henT : ∀ j, j < kk + 1 → j ≠ kk → en8 j = en j := fun j hj hj2 => (hen j (by omega)).trans (henT j hj hj2)
  have e_kk_5 : en8 (kk + 5) = .inr (5, [.int 0, .int 0, .null, .int 0]) := e_new
  refine G_eq (lv' := [(0, .ref (ad kk))]) (st' := [.ref (ad (kk + 5)), .ref (ad kk)]) (by rw [had kk (by omega)]) (by rw [had kk (by omega)]) (fun _ _ => rfl) ?_
  refine G_dup hC rfl dX1_init_36 ?_
  refine G_bipush hC (v := 6) (by decide) dX1_init_37 ?_
  refine G_iconst hC (v := 2) (by decide) dX1_init_39 ?_
  refine G_cA (st := [.ref (ad (kk + 5)), .ref (ad kk)]) hC hA hO _ (kk + 5) (c_X8_init (pp := kk + 5) (x1 := 6) (x2 := 2) (N := 12) l (by decide) (by decide) (by decide) e_kk_5) (cwI 2 hC.hts gX1_init_X8_init rfl rfl rfl (hC.hts _ qnX8) (hC.hts _ i13) (hC.hts _ iiX8_init) rfl (by decide +kernel) ⟨Nat.le_of_ble_eq_true rfl, Nat.le_of_ble_eq_true rfl⟩) rfl (Nat.le_of_ble_eq_true rfl) (Nat.le_of_ble_eq_true rfl) (Nat.le_of_ble_eq_true rfl) rfl dX1_init_40 (fun ad en9 hw hC => ?_)
  dsimp only at hw
  obtain ⟨had, e1, e2, hen⟩ := hw
  have hen : ∀ j, j < kk + 5 + 1 → j ≠ kk + 5 → en9 j = _ := hen
  have e_kk : en9 kk = .inr (0, [.ref (ad (kk + 1)), .ref (ad (kk + 3)), .null, .null, .null, .int 0]) := by rw [hen kk (by omega) (by omega), had (kk + 1) (by omega), had (kk + 3) (by omega)]; exact e_kk
  have e_kk_1 : en9 (kk + 1) = .inr (5, [.int 7, .int 12, .ref (ad (kk + 2)), .int 0]) := by rw [hen (kk + 1) (by omega) (by omega), had (kk + 2) (by omega)]; exact e_kk_1
  have e_kk_2 : en9 (kk + 2) = .inl (cs 2, 84, .inr (.inl (fun _ => 0))) := by rw [hen (kk + 2) (by omega) (by omega)]; exact e_kk_2
  have e_kk_3 : en9 (kk + 3) = .inr (5, [.int 3, .int 5, .ref (ad (kk + 4)), .int 0]) := by rw [hen (kk + 3) (by omega) (by omega), had (kk + 4) (by omega)]; exact e_kk_3
  have e_kk_4 : en9 (kk + 4) = .inl (cs 2, 15, .inr (.inl (fun _ => 0))) := by rw [hen (kk + 4) (by omega) (by omega)]; exact e_kk_4
  have hadT : ∀ j, j < kk + 1 → ad j = _ := fun j hj => (had j (by omega)).trans (hadT j hj)
  have henT : ∀ j, j < kk + 1 → j ≠ kk → en9 j = en j := fun j hj hj2 => (hen j (by omega) (by omega)).trans (henT j hj hj2)
  have e_kk_5 : en9 (kk + 5) = .inr (5, [.int 2, .int 6, .ref (ad (kk + 6)), .int 0]) := e1
  have e_kk_6 : en9 (kk + 6) = .inl (cs 2, 12, .inr (.inl (fun _ => 0))) := e2
  refine G_eq (lv' := [(0, .ref (ad kk))]) (st' := [.ref (ad (kk + 5)), .ref (ad kk)]) (by rw [had kk (by omega)]) (by rw [had (kk + 5) (by omega), had kk (by omega)]) (fun _ _ => rfl) ?_
  refine G_putF hC inX1 tyX1 tyX1_ok nmX1 kk (by omega) e_kk rfl 2 (by decide) m23 rfl rfl hnm rfl (ty := .object "TongueTip$Table") rfl rfl rfl (Nat.le_of_ble_eq_true rfl) dX1_init_43 (fun en10 e_kk fr => ?_)
  have e_kk : en10 kk = .inr (0, [.ref (ad (kk + 1)), .ref (ad (kk + 3)), .ref (ad (kk + 5)), .null, .null, .int 0]) := e_kk
  have e_kk_1 := (fr (kk + 1) (by omega)).trans e_kk_1
  have e_kk_2 := (fr (kk + 2) (by omega)).trans e_kk_2
  have e_kk_3 := (fr (kk + 3) (by omega)).trans e_kk_3
  have e_kk_4 := (fr (kk + 4) (by omega)).trans e_kk_4
  have e_kk_5 := (fr (kk + 5) (by omega)).trans e_kk_5
  have e_kk_6 := (fr (kk + 6) (by omega)).trans e_kk_6
  have henT : ∀ j, j < kk + 1 → j ≠ kk → en10 j = en j := fun j hj hj2 => (fr j (by omega)).trans (henT j hj hj2)
  refine G_aload_n hC 0 0 rfl rfl dX1_init_46 ?_
  refine G_newo hC hA (ci := 5) [.int 0, .int 0, .null, .int 0] inX8 tyX8 tyX8_ok q9 qiX8 qnX8 rfl (fun j hj => by rcases (show j = 0 ∨ j = 1 ∨ j = 2 ∨ j = 3 by omega) with rfl | rfl | rfl | rfl <;> rfl) (Nat.le_of_ble_eq_true rfl) (Nat.le_of_ble_eq_true rfl) dX1_init_47 (fun ad en11 had hen e_new hC => ?_)
  have e_kk : en11 kk = .inr (0, [.ref (ad (kk + 1)), .ref (ad (kk + 3)), .ref (ad (kk + 5)), .null, .null, .int 0]) := by rw [hen kk (by omega), had (kk + 1) (by omega), had (kk + 3) (by omega), had (kk + 5) (by omega)]; exact e_kk
  have e_kk_1 : en11 (kk + 1) = .inr (5, [.int 7, .int 12, .ref (ad (kk + 2)), .int 0]) := by rw [hen (kk + 1) (by omega), had (kk + 2) (by omega)]; exact e_kk_1
  have e_kk_2 : en11 (kk + 2) = .inl (cs 2, 84, .inr (.inl (fun _ => 0))) := by rw [hen (kk + 2) (by omega)]; exact e_kk_2
  have e_kk_3 : en11 (kk + 3) = .inr (5, [.int 3, .int 5, .ref (ad (kk + 4)), .int 0]) := by rw [hen (kk + 3) (by omega), had (kk + 4) (by omega)]; exact e_kk_3
  have e_kk_4 : en11 (kk + 4) = .inl (cs 2, 15, .inr (.inl (fun _ => 0))) := by rw [hen (kk + 4) (by omega)]; exact e_kk_4
  have e_kk_5 : en11 (kk + 5) = .inr (5, [.int 2, .int 6, .ref (ad (kk + 6)), .int 0]) := by rw [hen (kk + 5) (by omega), had (kk + 6) (by omega)]; exact e_kk_5
  have e_kk_6 : en11 (kk + 6) = .inl (cs 2, 12, .inr (.inl (fun _ => 0))) := by rw [hen (kk + 6) (by omega)]; exact e_kk_6
  have hadT : ∀ j, j < kk + 1 → ad j = _ := fun j hj => (had j (by omega)).trans (hadT j hj)
  have henT : ∀ j, j < kk + 1 → j ≠ kk → en11 j = en j := fun j hj hj2 => (hen j (by omega)).trans (henT j hj hj2)
  have e_kk_7 : en11 (kk + 7) = .inr (5, [.int 0, .int 0, .null, .int 0]) := e_new
  refine G_eq (lv' := [(0, .ref (ad kk))]) (st' := [.ref (ad (kk + 7)), .ref (ad kk)]) (by rw [had kk (by omega)]) (by rw [had kk (by omega)]) (fun _ _ => rfl) ?_
  refine G_dup hC rfl dX1_init_50 ?_
  refine G_iconst hC (v := 1) (by decide) dX1_init_51 ?_
  refine G_bipush hC (v := 8) (by decide) dX1_init_52 ?_
  refine G_cA (st := [.ref (ad (kk + 7)), .ref (ad kk)]) hC hA hO _ (kk + 7) (c_X8_init (pp := kk + 7) (x1 := 1) (x2 := 8) (N := 8) l (by decide) (by decide) (by decide) e_kk_7) (cwI 2 hC.hts gX1_init_X8_init rfl rfl rfl (hC.hts _ qnX8) (hC.hts _ i13) (hC.hts _ iiX8_init) rfl (by decide +kernel) ⟨Nat.le_of_ble_eq_true rfl, Nat.le_of_ble_eq_true rfl⟩) rfl (Nat.le_of_ble_eq_true rfl) (Nat.le_of_ble_eq_true rfl) (Nat.le_of_ble_eq_true rfl) rfl dX1_init_54 (fun ad en12 hw hC => ?_)
  dsimp only at hw
  obtain ⟨had, e1, e2, hen⟩ := hw
  have hen : ∀ j, j < kk + 7 + 1 → j ≠ kk + 7 → en12 j = _ := hen
  have e_kk : en12 kk = .inr (0, [.ref (ad (kk + 1)), .ref (ad (kk + 3)), .ref (ad (kk + 5)), .null, .null, .int 0]) := by rw [hen kk (by omega) (by omega), had (kk + 1) (by omega), had (kk + 3) (by omega), had (kk + 5) (by omega)]; exact e_kk
  have e_kk_1 : en12 (kk + 1) = .inr (5, [.int 7, .int 12, .ref (ad (kk + 2)), .int 0]) := by rw [hen (kk + 1) (by omega) (by omega), had (kk + 2) (by omega)]; exact e_kk_1
  have e_kk_2 : en12 (kk + 2) = .inl (cs 2, 84, .inr (.inl (fun _ => 0))) := by rw [hen (kk + 2) (by omega) (by omega)]; exact e_kk_2
  have e_kk_3 : en12 (kk + 3) = .inr (5, [.int 3, .int 5, .ref (ad (kk + 4)), .int 0]) := by rw [hen (kk + 3) (by omega) (by omega), had (kk + 4) (by omega)]; exact e_kk_3
  have e_kk_4 : en12 (kk + 4) = .inl (cs 2, 15, .inr (.inl (fun _ => 0))) := by rw [hen (kk + 4) (by omega) (by omega)]; exact e_kk_4
  have e_kk_5 : en12 (kk + 5) = .inr (5, [.int 2, .int 6, .ref (ad (kk + 6)), .int 0]) := by rw [hen (kk + 5) (by omega) (by omega), had (kk + 6) (by omega)]; exact e_kk_5
  have e_kk_6 : en12 (kk + 6) = .inl (cs 2, 12, .inr (.inl (fun _ => 0))) := by rw [hen (kk + 6) (by omega) (by omega)]; exact e_kk_6
  have hadT : ∀ j, j < kk + 1 → ad j = _ := fun j hj => (had j (by omega)).trans (hadT j hj)
  have henT : ∀ j, j < kk + 1 → j ≠ kk → en12 j = en j := fun j hj hj2 => (hen j (by omega) (by omega)).trans (henT j hj hj2)
  have e_kk_7 : en12 (kk + 7) = .inr (5, [.int 8, .int 1, .ref (ad (kk + 8)), .int 0]) := e1
  have e_kk_8 : en12 (kk + 8) = .inl (cs 2, 8, .inr (.inl (fun _ => 0))) := e2
  refine G_eq (lv' := [(0, .ref (ad kk))]) (st' := [.ref (ad (kk + 7)), .ref (ad kk)]) (by rw [had kk (by omega)]) (by rw [had (kk + 7) (by omega), had kk (by omega)]) (fun _ _ => rfl) ?_
  refine G_putF hC inX1 tyX1 tyX1_ok nmX1 kk (by omega) e_kk rfl 3 (by decide) m26 rfl rfl hnm rfl (ty := .object "TongueTip$Table") rfl rfl rfl (Nat.le_of_ble_eq_true rfl) dX1_init_57 (fun en13 e_kk fr => ?_)
  have e_kk : en13 kk = .inr (0, [.ref (ad (kk + 1)), .ref (ad (kk + 3)), .ref (ad (kk + 5)), .ref (ad (kk + 7)), .null, .int 0]) := e_kk
  have e_kk_1 := (fr (kk + 1) (by omega)).trans e_kk_1
  have e_kk_2 := (fr (kk + 2) (by omega)).trans e_kk_2
  have e_kk_3 := (fr (kk + 3) (by omega)).trans e_kk_3
  have e_kk_4 := (fr (kk + 4) (by omega)).trans e_kk_4
  have e_kk_5 := (fr (kk + 5) (by omega)).trans e_kk_5
  have e_kk_6 := (fr (kk + 6) (by omega)).trans e_kk_6
  have e_kk_7 := (fr (kk + 7) (by omega)).trans e_kk_7
  have e_kk_8 := (fr (kk + 8) (by omega)).trans e_kk_8
  have henT : ∀ j, j < kk + 1 → j ≠ kk → en13 j = en j := fun j hj hj2 => (fr j (by omega)).trans (henT j hj hj2)
  refine G_aload_n hC 0 0 rfl rfl dX1_init_60 ?_
  refine G_newo hC hA (ci := 5) [.int 0, .int 0, .null, .int 0] inX8 tyX8 tyX8_ok q9 qiX8 qnX8 rfl (fun j hj => by rcases (show j = 0 ∨ j = 1 ∨ j = 2 ∨ j = 3 by omega) with rfl | rfl | rfl | rfl <;> rfl) (Nat.le_of_ble_eq_true rfl) (Nat.le_of_ble_eq_true rfl) dX1_init_61 (fun ad en14 had hen e_new hC => ?_)
  have e_kk : en14 kk = .inr (0, [.ref (ad (kk + 1)), .ref (ad (kk + 3)), .ref (ad (kk + 5)), .ref (ad (kk + 7)), .null, .int 0]) := by rw [hen kk (by omega), had (kk + 1) (by omega), had (kk + 3) (by omega), had (kk + 5) (by omega), had (kk + 7) (by omega)]; exact e_kk
  have e_kk_1 : en14 (kk + 1) = .inr (5, [.int 7, .int 12, .ref (ad (kk + 2)), .int 0]) := by rw [hen (kk + 1) (by omega), had (kk + 2) (by omega)]; exact e_kk_1
  have e_kk_2 : en14 (kk + 2) = .inl (cs 2, 84, .inr (.inl (fun _ => 0))) := by rw [hen (kk + 2) (by omega)]; exact e_kk_2
  have e_kk_3 : en14 (kk + 3) = .inr (5, [.int 3, .int 5, .ref (ad (kk + 4)), .int 0]) := by rw [hen (kk + 3) (by omega), had (kk + 4) (by omega)]; exact e_kk_3
  have e_kk_4 : en14 (kk + 4) = .inl (cs 2, 15, .inr (.inl (fun _ => 0))) := by rw [hen (kk + 4) (by omega)]; exact e_kk_4
  have e_kk_5 : en14 (kk + 5) = .inr (5, [.int 2, .int 6, .ref (ad (kk + 6)), .int 0]) := by rw [hen (kk + 5) (by omega), had (kk + 6) (by omega)]; exact e_kk_5
  have e_kk_6 : en14 (kk + 6) = .inl (cs 2, 12, .inr (.inl (fun _ => 0))) := by rw [hen (kk + 6) (by omega)]; exact e_kk_6
  have e_kk_7 : en14 (kk + 7) = .inr (5, [.int 8, .int 1, .ref (ad (kk + 8)), .int 0]) := by rw [hen (kk + 7) (by omega), had (kk + 8) (by omega)]; exact e_kk_7
  have e_kk_8 : en14 (kk + 8) = .inl (cs 2, 8, .inr (.inl (fun _ => 0))) := by rw [hen (kk + 8) (by omega)]; exact e_kk_8
  have hadT : ∀ j, j < kk + 1 → ad j = _ := fun j hj => (had j (by omega)).trans (hadT j hj)
  have henT : ∀ j, j < kk + 1 → j ≠ kk → en14 j = en j := fun j hj hj2 => (hen j (by omega)).trans (henT j hj hj2)
  have e_kk_9 : en14 (kk + 9) = .inr (5, [.int 0, .int 0, .null, .int 0]) := e_new
  refine G_eq (lv' := [(0, .ref (ad kk))]) (st' := [.ref (ad (kk + 9)), .ref (ad kk)]) (by rw [had kk (by omega)]) (by rw [had kk (by omega)]) (fun _ _ => rfl) ?_
  refine G_dup hC rfl dX1_init_64 ?_
  refine G_iconst hC (v := 1) (by decide) dX1_init_65 ?_
  refine G_iconst hC (v := 5) (by decide) dX1_init_66 ?_
  refine G_cA (st := [.ref (ad (kk + 9)), .ref (ad kk)]) hC hA hO _ (kk + 9) (c_X8_init (pp := kk + 9) (x1 := 1) (x2 := 5) (N := 5) l (by decide) (by decide) (by decide) e_kk_9) (cwI 2 hC.hts gX1_init_X8_init rfl rfl rfl (hC.hts _ qnX8) (hC.hts _ i13) (hC.hts _ iiX8_init) rfl (by decide +kernel) ⟨Nat.le_of_ble_eq_true rfl, Nat.le_of_ble_eq_true rfl⟩) rfl (Nat.le_of_ble_eq_true rfl) (Nat.le_of_ble_eq_true rfl) (Nat.le_of_ble_eq_true rfl) rfl dX1_init_67 (fun ad en15 hw hC => ?_)
  dsimp only at hw
  obtain ⟨had, e1, e2, hen⟩ := hw
  have hen : ∀ j, j < kk + 9 + 1 → j ≠ kk + 9 → en15 j = _ := hen
  have e_kk : en15 kk = .inr (0, [.ref (ad (kk + 1)), .ref (ad (kk + 3)), .ref (ad (kk + 5)), .ref (ad (kk + 7)), .null, .int 0]) := by rw [hen kk (by omega) (by omega), had (kk + 1) (by omega), had (kk + 3) (by omega), had (kk + 5) (by omega), had (kk + 7) (by omega)]; exact e_kk
  have e_kk_1 : en15 (kk + 1) = .inr (5, [.int 7, .int 12, .ref (ad (kk + 2)), .int 0]) := by rw [hen (kk + 1) (by omega) (by omega), had (kk + 2) (by omega)]; exact e_kk_1
  have e_kk_2 : en15 (kk + 2) = .inl (cs 2, 84, .inr (.inl (fun _ => 0))) := by rw [hen (kk + 2) (by omega) (by omega)]; exact e_kk_2
  have e_kk_3 : en15 (kk + 3) = .inr (5, [.int 3, .int 5, .ref (ad (kk + 4)), .int 0]) := by rw [hen (kk + 3) (by omega) (by omega), had (kk + 4) (by omega)]; exact e_kk_3
  have e_kk_4 : en15 (kk + 4) = .inl (cs 2, 15, .inr (.inl (fun _ => 0))) := by rw [hen (kk + 4) (by omega) (by omega)]; exact e_kk_4
  have e_kk_5 : en15 (kk + 5) = .inr (5, [.int 2, .int 6, .ref (ad (kk + 6)), .int 0]) := by rw [hen (kk + 5) (by omega) (by omega), had (kk + 6) (by omega)]; exact e_kk_5
  have e_kk_6 : en15 (kk + 6) = .inl (cs 2, 12, .inr (.inl (fun _ => 0))) := by rw [hen (kk + 6) (by omega) (by omega)]; exact e_kk_6
  have e_kk_7 : en15 (kk + 7) = .inr (5, [.int 8, .int 1, .ref (ad (kk + 8)), .int 0]) := by rw [hen (kk + 7) (by omega) (by omega), had (kk + 8) (by omega)]; exact e_kk_7
  have e_kk_8 : en15 (kk + 8) = .inl (cs 2, 8, .inr (.inl (fun _ => 0))) := by rw [hen (kk + 8) (by omega) (by omega)]; exact e_kk_8
  have hadT : ∀ j, j < kk + 1 → ad j = _ := fun j hj => (had j (by omega)).trans (hadT j hj)
  have henT : ∀ j, j < kk + 1 → j ≠ kk → en15 j = en j := fun j hj hj2 => (hen j (by omega) (by omega)).trans (henT j hj hj2)
  have e_kk_9 : en15 (kk + 9) = .inr (5, [.int 5, .int 1, .ref (ad (kk + 10)), .int 0]) := e1
  have e_kk_10 : en15 (kk + 10) = .inl (cs 2, 5, .inr (.inl (fun _ => 0))) := e2
  refine G_eq (lv' := [(0, .ref (ad kk))]) (st' := [.ref (ad (kk + 9)), .ref (ad kk)]) (by rw [had kk (by omega)]) (by rw [had (kk + 9) (by omega), had kk (by omega)]) (fun _ _ => rfl) ?_
  refine G_putF hC inX1 tyX1 tyX1_ok nmX1 kk (by omega) e_kk rfl 4 (by decide) m29 rfl rfl hnm rfl (ty := .object "TongueTip$Table") rfl rfl rfl (Nat.le_of_ble_eq_true rfl) dX1_init_70 (fun en16 e_kk fr => ?_)
  have e_kk : en16 kk = .inr (0, [.ref (ad (kk + 1)), .ref (ad (kk + 3)), .ref (ad (kk + 5)), .ref (ad (kk + 7)), .ref (ad (kk + 9)), .int 0]) := e_kk
  have e_kk_1 := (fr (kk + 1) (by omega)).trans e_kk_1
  have e_kk_2 := (fr (kk + 2) (by omega)).trans e_kk_2
  have e_kk_3 := (fr (kk + 3) (by omega)).trans e_kk_3
  have e_kk_4 := (fr (kk + 4) (by omega)).trans e_kk_4
  have e_kk_5 := (fr (kk + 5) (by omega)).trans e_kk_5
  have e_kk_6 := (fr (kk + 6) (by omega)).trans e_kk_6
  have e_kk_7 := (fr (kk + 7) (by omega)).trans e_kk_7
  have e_kk_8 := (fr (kk + 8) (by omega)).trans e_kk_8
  have e_kk_9 := (fr (kk + 9) (by omega)).trans e_kk_9
  have e_kk_10 := (fr (kk + 10) (by omega)).trans e_kk_10
  have henT : ∀ j, j < kk + 1 → j ≠ kk → en16 j = en j := fun j hj hj2 => (fr j (by omega)).trans (henT j hj hj2)
  have H_sg : Hall cs ad en16 kk hall00 := Hall.mk e_kk e_kk_1 e_kk_2 e_kk_3 e_kk_4 e_kk_5 e_kk_6 e_kk_7 e_kk_8 e_kk_9 e_kk_10
  unfold f_X1_init at h
  refine G_aload_n hC 0 0 rfl rfl dX1_init_73 ?_
  refine G_get hC inX1 kk (by omega) (v := .ref (ad (kk + 7))) (H_sg 0 (by decide)) rfl 3 (by decide) m26 rfl rfl dX1_init_74 ?_
  obtain ⟨q77, h77, h⟩ := bnd h
  refine G_cVi (st := []) hC _ (kk + 7) (by omega) (c_X8_addRow (pp := kk + 7) l (by omega) (H_sg 7 (by decide)) h77) (cwV 0 hC.hts gX1_init_X8_addRow rfl rfl rfl (by decide +kernel) ⟨Nat.le_of_ble_eq_true rfl, Nat.le_of_ble_eq_true rfl⟩) (H_sg 7 (by decide)) rfl rfl (Nat.le_of_ble_eq_true rfl) (Nat.le_of_ble_eq_true rfl) (Nat.le_of_ble_eq_true rfl) rfl dX1_init_77 (fun r77 en2 hw => ?_)
  obtain ⟨rfl, t_T, fr⟩ := hw
  have H_sg : Hall cs ad en2 kk (hsR hall00 3 q77.2) := H_sg.upR3 t_T fr
  have henT : ∀ j, j < kk + 1 → j ≠ kk → en2 j = en j := fun j hj hj2 => (fr j (by omega)).trans (henT j hj hj2)
  refine G_pop hC rfl dX1_init_80 ?_
  refine G_aload_n hC 0 0 rfl rfl dX1_init_81 ?_
  refine G_get hC inX1 kk (by omega) (v := .ref (ad (kk + 9))) (H_sg 0 (by decide)) rfl 4 (by decide) m29 rfl rfl dX1_init_82 ?_
  obtain ⟨q85, h85, h⟩ := bnd h
  refine G_cVi (st := []) hC _ (kk + 9) (by omega) (c_X8_addRow (pp := kk + 9) l (by omega) (H_sg 9 (by decide)) h85) (cwV 0 hC.hts gX1_init_X8_addRow rfl rfl rfl (by decide +kernel) ⟨Nat.le_of_ble_eq_true rfl, Nat.le_of_ble_eq_true rfl⟩) (H_sg 9 (by decide)) rfl rfl (Nat.le_of_ble_eq_true rfl) (Nat.le_of_ble_eq_true rfl) (Nat.le_of_ble_eq_true rfl) rfl dX1_init_85 (fun r85 en3 hw => ?_)
  obtain ⟨rfl, t_T, fr⟩ := hw
  have H_sg : Hall cs ad en3 kk (hsR (hsR hall00 3 q77.2) 4 q85.2) := H_sg.upR4 t_T fr
  have henT : ∀ j, j < kk + 1 → j ≠ kk → en3 j = en j := fun j hj hj2 => (fr j (by omega)).trans (henT j hj hj2)
  refine G_pop hC rfl dX1_init_88 ?_
  refine G_aload_n hC 0 0 rfl rfl dX1_init_89 ?_
  obtain ⟨q90, h90, h⟩ := bnd h
  refine G_cVv (st := []) hC _ kk (by omega) (c_X1_begin (kk := kk) l (by omega) H_sg h90) (cwV 0 hC.hts gX1_init_X1_begin rfl rfl rfl (by decide +kernel) ⟨Nat.le_of_ble_eq_true rfl, Nat.le_of_ble_eq_true rfl⟩) (H_sg 0 (by decide)) rfl rfl (Nat.le_of_ble_eq_true rfl) (Nat.le_of_ble_eq_true rfl) (Nat.le_of_ble_eq_true rfl) rfl dX1_init_90 (fun en4 hw => ?_)
  obtain ⟨H_sg, fr⟩ := hw
  have henT : ∀ j, j < kk + 1 → j ≠ kk → en4 j = en j := fun j hj hj2 => (fr j (by omega)).trans (henT j hj hj2)
  have h := Option.some.inj h
  subst h
  exact Kr ad _ _ _ hC ⟨hadT, H_sg, henT⟩ dX1_init_93
theorem ringF_mk {ad : Nat → Nat} : va_up (va_up (va_up (va_up (fun _ => none) 0 (some (ad 14))) 1 (some (ad 25))) 2 (some (ad 36))) 3 (some (ad 47)) = ringF ad := by
  funext j
  match j with
  | 0 => rfl
  | 1 => rfl
  | 2 => rfl
  | 3 => rfl
  | j + 4 => simp [va_up, ringF]
theorem ringF_gr {ad ad2 : Nat → Nat} (h : ∀ j, j < 58 → ad2 j = ad j) : ringF ad2 = ringF ad := by
  funext j
  by_cases q : j < 4
  · simp only [ringF, if_pos q]; rw [h _ (by omega)]
  · simp only [ringF, if_neg q]
theorem imgF_gr {ad ad2 : Nat → Nat} (h : ∀ j, j < 100 → ad2 j = ad j) : imgF ad2 = imgF ad := by
  funext j
  by_cases q : j < 2
  · simp only [imgF, if_pos q]; rw [h _ (by omega)]
  · simp only [imgF, if_neg q]
theorem imgF_mk {ad : Nat → Nat} : va_up (va_up (fun _ => none) 0 (some (ad 59))) 1 (some (ad 70)) = imgF ad := by
  funext j
  match j with
  | 0 => rfl
  | 1 => rfl
  | j + 2 => simp [va_up, imgF]
set_option maxHeartbeats 4000000 in
set_option maxRecDepth 100000 in
theorem c_X5_init {D : va_G} {cs : Nat → ClassId} {sa : Nat → Nat} {ad : Nat → Nat} {A : Nat → Prop} (l : Launch) {en : Nat → va_E} {q : HallV} (e_12 : en 12 = .inr (2, [.null, .int 0, .int 0])) (hq : f_X1_init = some q) : Met l yX5_init wsX5_init { frames := 3, cells := 45, slots := 604, locals := 66 } (va_Pc [.ref (ad 12)] (WdA D cs sa (13) ad A en)) (va_Qv (fun (u : (Nat → Nat) × (Nat → va_E)) => (∀ j, j < 13 → u.1 j = ad j) ∧ u.2 12 = .inr (2, [.ref (u.1 13), .int 0, .int 0]) ∧ u.2 13 = .inl (cs 4, 4, .inr (.inr (.inr (.inr (ringF u.1))))) ∧ (∀ i, i < 4 → Hall cs u.1 u.2 (14 + 11 * i) q) ∧ (∀ j, j < 13 → j ≠ 12 → u.2 j = en j)) (fun (u : (Nat → Nat) × (Nat → va_E)) => Wd D cs sa (58) u.1 A u.2) A) 45 604 A := by
  refine G_startA cX5_init 2 [(0, .ref (ad 12))] (by decide) rfl (Nat.le_of_ble_eq_true rfl) rfl ?_
  intro p e s m args below meth c Q hC hnm hA hO Kr
  have inX1 : ∀ w ∈ u_ws RX1 TX1 6, w ∈ wsX5_init := by decide +kernel
  have inX5 : ∀ w ∈ u_ws RX5 TX5 3, w ∈ wsX5_init := by decide +kernel
  have i15 : Cond.methodLink RX5 15 yX1_init ∈ wsX5_init := by decide +kernel
  have iiX1_init : Cond.instanceMethod yX1_init ∈ wsX5_init := by decide +kernel
  have m11 : Cond.fieldLink RX5 11 "TongueTip$Past" "ring" "[LTongueTip$Hall;" ∈ wsX5_init := by decide +kernel
  have oi1 : Cond.methodLink RX5 1 Lib.objectInit ∈ wsX5_init := by decide +kernel
  have oi2 : Cond.instanceMethod Lib.objectInit ∈ wsX5_init := by decide +kernel
  have oi3 : Cond.code Lib.objectInit ⟨#[0xb1]⟩ 1 none ∈ wsX5_init := by decide +kernel
  have q9 : Cond.classLink RX5 9 RX1 ∈ wsX5_init := by decide +kernel
  have qiX1 : Cond.instantiable RX1 6 ∈ wsX5_init := by decide +kernel
  have qnX1 : Cond.initialized RX1 ∈ wsX5_init := by decide +kernel
  have hadT : ∀ j, j < 13 → ad j = ad j := fun _ _ => rfl
  have henT : ∀ j, j < 13 → j ≠ 12 → en j = en j := fun _ _ _ => rfl
  refine G_aload_n hC 0 0 rfl rfl dX5_init_0 ?_
  refine G_objInit hC oi1 oi2 oi3 (Nat.le_of_ble_eq_true rfl) (Nat.le_of_ble_eq_true rfl) dX5_init_1 ?_
  refine G_aload_n hC 0 0 rfl rfl dX5_init_4 ?_
  refine G_iconst hC (v := 4) (by decide) dX5_init_5 ?_
  refine G_newr (N := 4) hC hA hO q9 (by decide) (by decide) (by decide) (Nat.le_of_ble_eq_true rfl) (Nat.le_of_ble_eq_true rfl) dX5_init_6 (fun ad en2 had hen e_new hC => ?_)
  have e_12 : en2 12 = .inr (2, [.null, .int 0, .int 0]) := by rw [hen 12 (by omega)]; exact e_12
  have hadT : ∀ j, j < 13 → ad j = _ := fun j hj => (had j (by omega)).trans (hadT j hj)
  have henT : ∀ j, j < 13 → j ≠ 12 → en2 j = en j := fun j hj hj2 => (hen j (by omega)).trans (henT j hj hj2)
  have e_13 : en2 13 = .inl (cs 4, 4, .inr (.inr (.inr (.inr (fun _ => none))))) := e_new
  refine G_eq (lv' := [(0, .ref (ad 12))]) (st' := [.ref (ad 13), .ref (ad 12)]) (by rw [had 12 (by omega)]) (by rw [had 12 (by omega)]) (fun _ _ => rfl) ?_
  refine G_putF hC inX5 tyX5 tyX5_ok nmX5 12 (by omega) e_12 rfl 0 (by decide) m11 rfl rfl hnm rfl (ty := .array (.object "TongueTip$Hall")) rfl rfl rfl (Nat.le_of_ble_eq_true rfl) dX5_init_9 (fun en3 e_12 fr => ?_)
  have e_12 : en3 12 = .inr (2, [.ref (ad 13), .int 0, .int 0]) := e_12
  have e_13 := (fr 13 (by omega)).trans e_13
  have henT : ∀ j, j < 13 → j ≠ 12 → en3 j = en j := fun j hj hj2 => (fr j (by omega)).trans (henT j hj hj2)
  refine G_iconst hC (v := 0) (by decide) dX5_init_12 ?_
  refine G_istore_n hC 1 [(1, .int 0), (0, .ref (ad 12))] rfl (by decide) rfl dX5_init_13 ?_
  refine G_iload_n hC 1 0 rfl rfl dX5_init_14 ?_
  refine G_aload_n hC 0 1 rfl rfl dX5_init_15 ?_
  refine G_get hC inX5 12 (by omega) (v := .ref (ad 13)) e_12 rfl 0 (by decide) m11 rfl rfl dX5_init_16 ?_
  refine G_alen hC 4 13 (by omega) (v := 4) e_13 rfl rfl dX5_init_19 ?_
  refine G_icmp_ge hC 42 dX5_init_20 (by decide) (fun z => absurd z (by decide)) (fun _ => ?_)
  refine G_aload_n hC 0 1 rfl rfl dX5_init_23 ?_
  refine G_get hC inX5 12 (by omega) (v := .ref (ad 13)) e_12 rfl 0 (by decide) m11 rfl rfl dX5_init_24 ?_
  refine G_iload_n hC 1 0 rfl rfl dX5_init_27 ?_
  refine G_newo hC hA (ci := 0) [.null, .null, .null, .null, .null, .int 0] inX1 tyX1 tyX1_ok q9 qiX1 qnX1 rfl (fun j hj => by rcases (show j = 0 ∨ j = 1 ∨ j = 2 ∨ j = 3 ∨ j = 4 ∨ j = 5 by omega) with rfl | rfl | rfl | rfl | rfl | rfl <;> rfl) (Nat.le_of_ble_eq_true rfl) (Nat.le_of_ble_eq_true rfl) dX5_init_28 (fun ad en4 had hen e_new hC => ?_)
  have e_12 : en4 12 = .inr (2, [.ref (ad 13), .int 0, .int 0]) := by rw [hen 12 (by omega), had 13 (by omega)]; exact e_12
  have e_13 : en4 13 = .inl (cs 4, 4, .inr (.inr (.inr (.inr (fun _ => none))))) := by rw [hen 13 (by omega)]; exact e_13
  have hadT : ∀ j, j < 13 → ad j = _ := fun j hj => (had j (by omega)).trans (hadT j hj)
  have henT : ∀ j, j < 13 → j ≠ 12 → en4 j = en j := fun j hj hj2 => (hen j (by omega)).trans (henT j hj hj2)
  have e_14 : en4 14 = .inr (0, [.null, .null, .null, .null, .null, .int 0]) := e_new
  refine G_eq (lv' := [(1, .int 0), (0, .ref (ad 12))]) (st' := [.ref (ad 14), .int 0, .ref (ad 13)]) (by rw [had 12 (by omega)]) (by rw [had 13 (by omega)]) (fun _ _ => rfl) ?_
  refine G_dup hC rfl dX5_init_31 ?_
  refine G_cA (st := [.ref (ad 14), .int 0, .ref (ad 13)]) hC hA hO _ 14 (c_X1_init (kk := 14) l e_14 hq) (cwI 0 hC.hts gX5_init_X1_init rfl rfl rfl (hC.hts _ qnX1) (hC.hts _ i15) (hC.hts _ iiX1_init) rfl (by decide +kernel) ⟨Nat.le_of_ble_eq_true rfl, Nat.le_of_ble_eq_true rfl⟩) rfl (Nat.le_of_ble_eq_true rfl) (Nat.le_of_ble_eq_true rfl) (Nat.le_of_ble_eq_true rfl) rfl dX5_init_32 (fun ad en5 hw hC => ?_)
  dsimp only at hw
  obtain ⟨had, H9, hen⟩ := hw
  have hen : ∀ j, j < 15 → j ≠ 14 → en5 j = _ := hen
  have e_12 : en5 12 = .inr (2, [.ref (ad 13), .int 0, .int 0]) := by rw [hen 12 (by omega) (by omega), had 13 (by omega)]; exact e_12
  have e_13 : en5 13 = .inl (cs 4, 4, .inr (.inr (.inr (.inr (fun _ => none))))) := by rw [hen 13 (by omega) (by omega)]; exact e_13
  have hadT : ∀ j, j < 13 → ad j = _ := fun j hj => (had j (by omega)).trans (hadT j hj)
  have henT : ∀ j, j < 13 → j ≠ 12 → en5 j = en j := fun j hj hj2 => (hen j (by omega) (by omega)).trans (henT j hj hj2)
  have e_14 : Hall cs ad en5 14 q := H9
  refine G_eq (lv' := [(1, .int 0), (0, .ref (ad 12))]) (st' := [.ref (ad 14), .int 0, .ref (ad 13)]) (by rw [had 12 (by omega)]) (by rw [had 14 (by omega), had 13 (by omega)]) (fun _ _ => rfl) ?_
  refine G_astq hC 13 14 (by omega) (by omega) e_13 (e_14 0 (by decide)) (by decide) dX5_init_35 (fun en6 e_13 fr => ?_)
  have e_13 : en6 13 = .inl (cs 4, 4, .inr (.inr (.inr (.inr (va_up (fun _ => none) 0 (some (ad 14))))))) := e_13
  have e_12 := (fr 12 (by omega)).trans e_12
  have e_14 := e_14.fr (fun j h1 h2 => fr j (by omega))
  have henT : ∀ j, j < 13 → j ≠ 12 → en6 j = en j := fun j hj hj2 => (fr j (by omega)).trans (henT j hj hj2)
  refine G_iinc hC 1 0 (v := 1) [(1, .int 1), (0, .ref (ad 12))] rfl (by decide) (by decide) rfl dX5_init_36 ?_
  refine G_goto hC 14 dX5_init_39 (by decide) ?_
  refine G_iload_n hC 1 0 rfl rfl dX5_init_14 ?_
  refine G_aload_n hC 0 1 rfl rfl dX5_init_15 ?_
  refine G_get hC inX5 12 (by omega) (v := .ref (ad 13)) e_12 rfl 0 (by decide) m11 rfl rfl dX5_init_16 ?_
  refine G_alen hC 4 13 (by omega) (v := 4) e_13 rfl rfl dX5_init_19 ?_
  refine G_icmp_ge hC 42 dX5_init_20 (by decide) (fun z => absurd z (by decide)) (fun _ => ?_)
  refine G_aload_n hC 0 1 rfl rfl dX5_init_23 ?_
  refine G_get hC inX5 12 (by omega) (v := .ref (ad 13)) e_12 rfl 0 (by decide) m11 rfl rfl dX5_init_24 ?_
  refine G_iload_n hC 1 0 rfl rfl dX5_init_27 ?_
  refine G_newo hC hA (ci := 0) [.null, .null, .null, .null, .null, .int 0] inX1 tyX1 tyX1_ok q9 qiX1 qnX1 rfl (fun j hj => by rcases (show j = 0 ∨ j = 1 ∨ j = 2 ∨ j = 3 ∨ j = 4 ∨ j = 5 by omega) with rfl | rfl | rfl | rfl | rfl | rfl <;> rfl) (Nat.le_of_ble_eq_true rfl) (Nat.le_of_ble_eq_true rfl) dX5_init_28 (fun ad en7 had hen e_new hC => ?_)
  have e_12 : en7 12 = .inr (2, [.ref (ad 13), .int 0, .int 0]) := by rw [hen 12 (by omega), had 13 (by omega)]; exact e_12
  have e_13 : en7 13 = .inl (cs 4, 4, .inr (.inr (.inr (.inr (va_up (fun _ => none) 0 (some (ad 14))))))) := by rw [hen 13 (by omega), had 14 (by omega)]; exact e_13
  have e_14 : Hall cs ad en7 14 q := e_14.grow (fun j h1 h2 => had j (by omega)) (fun j h1 h2 => hen j (by omega))
  have hadT : ∀ j, j < 13 → ad j = _ := fun j hj => (had j (by omega)).trans (hadT j hj)
  have henT : ∀ j, j < 13 → j ≠ 12 → en7 j = en j := fun j hj hj2 => (hen j (by omega)).trans (henT j hj hj2)
  have e_25 : en7 25 = .inr (0, [.null, .null, .null, .null, .null, .int 0]) := e_new
  refine G_eq (lv' := [(1, .int 1), (0, .ref (ad 12))]) (st' := [.ref (ad 25), .int 1, .ref (ad 13)]) (by rw [had 12 (by omega)]) (by rw [had 13 (by omega)]) (fun _ _ => rfl) ?_
  refine G_dup hC rfl dX5_init_31 ?_
  refine G_cA (st := [.ref (ad 25), .int 1, .ref (ad 13)]) hC hA hO _ 25 (c_X1_init (kk := 25) l e_25 hq) (cwI 0 hC.hts gX5_init_X1_init rfl rfl rfl (hC.hts _ qnX1) (hC.hts _ i15) (hC.hts _ iiX1_init) rfl (by decide +kernel) ⟨Nat.le_of_ble_eq_true rfl, Nat.le_of_ble_eq_true rfl⟩) rfl (Nat.le_of_ble_eq_true rfl) (Nat.le_of_ble_eq_true rfl) (Nat.le_of_ble_eq_true rfl) rfl dX5_init_32 (fun ad en8 hw hC => ?_)
  dsimp only at hw
  obtain ⟨had, H9, hen⟩ := hw
  have hen : ∀ j, j < 26 → j ≠ 25 → en8 j = _ := hen
  have e_12 : en8 12 = .inr (2, [.ref (ad 13), .int 0, .int 0]) := by rw [hen 12 (by omega) (by omega), had 13 (by omega)]; exact e_12
  have e_13 : en8 13 = .inl (cs 4, 4, .inr (.inr (.inr (.inr (va_up (fun _ => none) 0 (some (ad 14))))))) := by rw [hen 13 (by omega) (by omega), had 14 (by omega)]; exact e_13
  have e_14 : Hall cs ad en8 14 q := e_14.grow (fun j h1 h2 => had j (by omega)) (fun j h1 h2 => hen j (by omega) (by omega))
  have hadT : ∀ j, j < 13 → ad j = _ := fun j hj => (had j (by omega)).trans (hadT j hj)
  have henT : ∀ j, j < 13 → j ≠ 12 → en8 j = en j := fun j hj hj2 => (hen j (by omega) (by omega)).trans (henT j hj hj2)
  have e_25 : Hall cs ad en8 25 q := H9
  refine G_eq (lv' := [(1, .int 1), (0, .ref (ad 12))]) (st' := [.ref (ad 25), .int 1, .ref (ad 13)]) (by rw [had 12 (by omega)]) (by rw [had 25 (by omega), had 13 (by omega)]) (fun _ _ => rfl) ?_
  refine G_astq hC 13 25 (by omega) (by omega) e_13 (e_25 0 (by decide)) (by decide) dX5_init_35 (fun en9 e_13 fr => ?_)
  have e_13 : en9 13 = .inl (cs 4, 4, .inr (.inr (.inr (.inr (va_up (va_up (fun _ => none) 0 (some (ad 14))) 1 (some (ad 25))))))) := e_13
  have e_12 := (fr 12 (by omega)).trans e_12
  have e_14 := e_14.fr (fun j h1 h2 => fr j (by omega))
  have e_25 := e_25.fr (fun j h1 h2 => fr j (by omega))
  have henT : ∀ j, j < 13 → j ≠ 12 → en9 j = en j := fun j hj hj2 => (fr j (by omega)).trans (henT j hj hj2)
  refine G_iinc hC 1 0 (v := 2) [(1, .int 2), (0, .ref (ad 12))] rfl (by decide) (by decide) rfl dX5_init_36 ?_
  refine G_goto hC 14 dX5_init_39 (by decide) ?_
  refine G_iload_n hC 1 0 rfl rfl dX5_init_14 ?_
  refine G_aload_n hC 0 1 rfl rfl dX5_init_15 ?_
  refine G_get hC inX5 12 (by omega) (v := .ref (ad 13)) e_12 rfl 0 (by decide) m11 rfl rfl dX5_init_16 ?_
  refine G_alen hC 4 13 (by omega) (v := 4) e_13 rfl rfl dX5_init_19 ?_
  refine G_icmp_ge hC 42 dX5_init_20 (by decide) (fun z => absurd z (by decide)) (fun _ => ?_)
  refine G_aload_n hC 0 1 rfl rfl dX5_init_23 ?_
  refine G_get hC inX5 12 (by omega) (v := .ref (ad 13)) e_12 rfl 0 (by decide) m11 rfl rfl dX5_init_24 ?_
  refine G_iload_n hC 1 0 rfl rfl dX5_init_27 ?_
  refine G_newo hC hA (ci := 0) [.null, .null, .null, .null, .null, .int 0] inX1 tyX1 tyX1_ok q9 qiX1 qnX1 rfl (fun j hj => by rcases (show j = 0 ∨ j = 1 ∨ j = 2 ∨ j = 3 ∨ j = 4 ∨ j = 5 by omega) with rfl | rfl | rfl | rfl | rfl | rfl <;> rfl) (Nat.le_of_ble_eq_true rfl) (Nat.le_of_ble_eq_true rfl) dX5_init_28 (fun ad en10 had hen e_new hC => ?_)
  have e_12 : en10 12 = .inr (2, [.ref (ad 13), .int 0, .int 0]) := by rw [hen 12 (by omega), had 13 (by omega)]; exact e_12
  have e_13 : en10 13 = .inl (cs 4, 4, .inr (.inr (.inr (.inr (va_up (va_up (fun _ => none) 0 (some (ad 14))) 1 (some (ad 25))))))) := by rw [hen 13 (by omega), had 14 (by omega), had 25 (by omega)]; exact e_13
  have e_14 : Hall cs ad en10 14 q := e_14.grow (fun j h1 h2 => had j (by omega)) (fun j h1 h2 => hen j (by omega))
  have e_25 : Hall cs ad en10 25 q := e_25.grow (fun j h1 h2 => had j (by omega)) (fun j h1 h2 => hen j (by omega))
  have hadT : ∀ j, j < 13 → ad j = _ := fun j hj => (had j (by omega)).trans (hadT j hj)
  have henT : ∀ j, j < 13 → j ≠ 12 → en10 j = en j := fun j hj hj2 => (hen j (by omega)).trans (henT j hj hj2)
  have e_36 : en10 36 = .inr (0, [.null, .null, .null, .null, .null, .int 0]) := e_new
  refine G_eq (lv' := [(1, .int 2), (0, .ref (ad 12))]) (st' := [.ref (ad 36), .int 2, .ref (ad 13)]) (by rw [had 12 (by omega)]) (by rw [had 13 (by omega)]) (fun _ _ => rfl) ?_
  refine G_dup hC rfl dX5_init_31 ?_
  refine G_cA (st := [.ref (ad 36), .int 2, .ref (ad 13)]) hC hA hO _ 36 (c_X1_init (kk := 36) l e_36 hq) (cwI 0 hC.hts gX5_init_X1_init rfl rfl rfl (hC.hts _ qnX1) (hC.hts _ i15) (hC.hts _ iiX1_init) rfl (by decide +kernel) ⟨Nat.le_of_ble_eq_true rfl, Nat.le_of_ble_eq_true rfl⟩) rfl (Nat.le_of_ble_eq_true rfl) (Nat.le_of_ble_eq_true rfl) (Nat.le_of_ble_eq_true rfl) rfl dX5_init_32 (fun ad en11 hw hC => ?_)
  dsimp only at hw
  obtain ⟨had, H9, hen⟩ := hw
  have hen : ∀ j, j < 37 → j ≠ 36 → en11 j = _ := hen
  have e_12 : en11 12 = .inr (2, [.ref (ad 13), .int 0, .int 0]) := by rw [hen 12 (by omega) (by omega), had 13 (by omega)]; exact e_12
  have e_13 : en11 13 = .inl (cs 4, 4, .inr (.inr (.inr (.inr (va_up (va_up (fun _ => none) 0 (some (ad 14))) 1 (some (ad 25))))))) := by rw [hen 13 (by omega) (by omega), had 14 (by omega), had 25 (by omega)]; exact e_13
  have e_14 : Hall cs ad en11 14 q := e_14.grow (fun j h1 h2 => had j (by omega)) (fun j h1 h2 => hen j (by omega) (by omega))
  have e_25 : Hall cs ad en11 25 q := e_25.grow (fun j h1 h2 => had j (by omega)) (fun j h1 h2 => hen j (by omega) (by omega))
  have hadT : ∀ j, j < 13 → ad j = _ := fun j hj => (had j (by omega)).trans (hadT j hj)
  have henT : ∀ j, j < 13 → j ≠ 12 → en11 j = en j := fun j hj hj2 => (hen j (by omega) (by omega)).trans (henT j hj hj2)
  have e_36 : Hall cs ad en11 36 q := H9
  refine G_eq (lv' := [(1, .int 2), (0, .ref (ad 12))]) (st' := [.ref (ad 36), .int 2, .ref (ad 13)]) (by rw [had 12 (by omega)]) (by rw [had 36 (by omega), had 13 (by omega)]) (fun _ _ => rfl) ?_
  refine G_astq hC 13 36 (by omega) (by omega) e_13 (e_36 0 (by decide)) (by decide) dX5_init_35 (fun en12 e_13 fr => ?_)
  have e_13 : en12 13 = .inl (cs 4, 4, .inr (.inr (.inr (.inr (va_up (va_up (va_up (fun _ => none) 0 (some (ad 14))) 1 (some (ad 25))) 2 (some (ad 36))))))) := e_13
  have e_12 := (fr 12 (by omega)).trans e_12
  have e_14 := e_14.fr (fun j h1 h2 => fr j (by omega))
  have e_25 := e_25.fr (fun j h1 h2 => fr j (by omega))
  have e_36 := e_36.fr (fun j h1 h2 => fr j (by omega))
  have henT : ∀ j, j < 13 → j ≠ 12 → en12 j = en j := fun j hj hj2 => (fr j (by omega)).trans (henT j hj hj2)
  refine G_iinc hC 1 0 (v := 3) [(1, .int 3), (0, .ref (ad 12))] rfl (by decide) (by decide) rfl dX5_init_36 ?_
  refine G_goto hC 14 dX5_init_39 (by decide) ?_
  refine G_iload_n hC 1 0 rfl rfl dX5_init_14 ?_
  refine G_aload_n hC 0 1 rfl rfl dX5_init_15 ?_
  refine G_get hC inX5 12 (by omega) (v := .ref (ad 13)) e_12 rfl 0 (by decide) m11 rfl rfl dX5_init_16 ?_
  refine G_alen hC 4 13 (by omega) (v := 4) e_13 rfl rfl dX5_init_19 ?_
  refine G_icmp_ge hC 42 dX5_init_20 (by decide) (fun z => absurd z (by decide)) (fun _ => ?_)
  refine G_aload_n hC 0 1 rfl rfl dX5_init_23 ?_
  refine G_get hC inX5 12 (by omega) (v := .ref (ad 13)) e_12 rfl 0 (by decide) m11 rfl rfl dX5_init_24 ?_
  refine G_iload_n hC 1 0 rfl rfl dX5_init_27 ?_
  refine G_newo hC hA (ci := 0) [.null, .null, .null, .null, .null, .int 0] inX1 tyX1 tyX1_ok q9 qiX1 qnX1 rfl (fun j hj => by rcases (show j = 0 ∨ j = 1 ∨ j = 2 ∨ j = 3 ∨ j = 4 ∨ j = 5 by omega) with rfl | rfl | rfl | rfl | rfl | rfl <;> rfl) (Nat.le_of_ble_eq_true rfl) (Nat.le_of_ble_eq_true rfl) dX5_init_28 (fun ad en13 had hen e_new hC => ?_)
  have e_12 : en13 12 = .inr (2, [.ref (ad 13), .int 0, .int 0]) := by rw [hen 12 (by omega), had 13 (by omega)]; exact e_12
  have e_13 : en13 13 = .inl (cs 4, 4, .inr (.inr (.inr (.inr (va_up (va_up (va_up (fun _ => none) 0 (some (ad 14))) 1 (some (ad 25))) 2 (some (ad 36))))))) := by rw [hen 13 (by omega), had 14 (by omega), had 25 (by omega), had 36 (by omega)]; exact e_13
  have e_14 : Hall cs ad en13 14 q := e_14.grow (fun j h1 h2 => had j (by omega)) (fun j h1 h2 => hen j (by omega))
  have e_25 : Hall cs ad en13 25 q := e_25.grow (fun j h1 h2 => had j (by omega)) (fun j h1 h2 => hen j (by omega))
  have e_36 : Hall cs ad en13 36 q := e_36.grow (fun j h1 h2 => had j (by omega)) (fun j h1 h2 => hen j (by omega))
  have hadT : ∀ j, j < 13 → ad j = _ := fun j hj => (had j (by omega)).trans (hadT j hj)
  have henT : ∀ j, j < 13 → j ≠ 12 → en13 j = en j := fun j hj hj2 => (hen j (by omega)).trans (henT j hj hj2)
  have e_47 : en13 47 = .inr (0, [.null, .null, .null, .null, .null, .int 0]) := e_new
  refine G_eq (lv' := [(1, .int 3), (0, .ref (ad 12))]) (st' := [.ref (ad 47), .int 3, .ref (ad 13)]) (by rw [had 12 (by omega)]) (by rw [had 13 (by omega)]) (fun _ _ => rfl) ?_
  refine G_dup hC rfl dX5_init_31 ?_
  refine G_cA (st := [.ref (ad 47), .int 3, .ref (ad 13)]) hC hA hO _ 47 (c_X1_init (kk := 47) l e_47 hq) (cwI 0 hC.hts gX5_init_X1_init rfl rfl rfl (hC.hts _ qnX1) (hC.hts _ i15) (hC.hts _ iiX1_init) rfl (by decide +kernel) ⟨Nat.le_of_ble_eq_true rfl, Nat.le_of_ble_eq_true rfl⟩) rfl (Nat.le_of_ble_eq_true rfl) (Nat.le_of_ble_eq_true rfl) (Nat.le_of_ble_eq_true rfl) rfl dX5_init_32 (fun ad en14 hw hC => ?_)
  dsimp only at hw
  obtain ⟨had, H9, hen⟩ := hw
  have hen : ∀ j, j < 48 → j ≠ 47 → en14 j = _ := hen
  have e_12 : en14 12 = .inr (2, [.ref (ad 13), .int 0, .int 0]) := by rw [hen 12 (by omega) (by omega), had 13 (by omega)]; exact e_12
  have e_13 : en14 13 = .inl (cs 4, 4, .inr (.inr (.inr (.inr (va_up (va_up (va_up (fun _ => none) 0 (some (ad 14))) 1 (some (ad 25))) 2 (some (ad 36))))))) := by rw [hen 13 (by omega) (by omega), had 14 (by omega), had 25 (by omega), had 36 (by omega)]; exact e_13
  have e_14 : Hall cs ad en14 14 q := e_14.grow (fun j h1 h2 => had j (by omega)) (fun j h1 h2 => hen j (by omega) (by omega))
  have e_25 : Hall cs ad en14 25 q := e_25.grow (fun j h1 h2 => had j (by omega)) (fun j h1 h2 => hen j (by omega) (by omega))
  have e_36 : Hall cs ad en14 36 q := e_36.grow (fun j h1 h2 => had j (by omega)) (fun j h1 h2 => hen j (by omega) (by omega))
  have hadT : ∀ j, j < 13 → ad j = _ := fun j hj => (had j (by omega)).trans (hadT j hj)
  have henT : ∀ j, j < 13 → j ≠ 12 → en14 j = en j := fun j hj hj2 => (hen j (by omega) (by omega)).trans (henT j hj hj2)
  have e_47 : Hall cs ad en14 47 q := H9
  refine G_eq (lv' := [(1, .int 3), (0, .ref (ad 12))]) (st' := [.ref (ad 47), .int 3, .ref (ad 13)]) (by rw [had 12 (by omega)]) (by rw [had 47 (by omega), had 13 (by omega)]) (fun _ _ => rfl) ?_
  refine G_astq hC 13 47 (by omega) (by omega) e_13 (e_47 0 (by decide)) (by decide) dX5_init_35 (fun en15 e_13 fr => ?_)
  have e_13 : en15 13 = .inl (cs 4, 4, .inr (.inr (.inr (.inr (va_up (va_up (va_up (va_up (fun _ => none) 0 (some (ad 14))) 1 (some (ad 25))) 2 (some (ad 36))) 3 (some (ad 47))))))) := e_13
  have e_12 := (fr 12 (by omega)).trans e_12
  have e_14 := e_14.fr (fun j h1 h2 => fr j (by omega))
  have e_25 := e_25.fr (fun j h1 h2 => fr j (by omega))
  have e_36 := e_36.fr (fun j h1 h2 => fr j (by omega))
  have e_47 := e_47.fr (fun j h1 h2 => fr j (by omega))
  have henT : ∀ j, j < 13 → j ≠ 12 → en15 j = en j := fun j hj hj2 => (fr j (by omega)).trans (henT j hj hj2)
  refine G_iinc hC 1 0 (v := 4) [(1, .int 4), (0, .ref (ad 12))] rfl (by decide) (by decide) rfl dX5_init_36 ?_
  refine G_goto hC 14 dX5_init_39 (by decide) ?_
  refine G_iload_n hC 1 0 rfl rfl dX5_init_14 ?_
  refine G_aload_n hC 0 1 rfl rfl dX5_init_15 ?_
  refine G_get hC inX5 12 (by omega) (v := .ref (ad 13)) e_12 rfl 0 (by decide) m11 rfl rfl dX5_init_16 ?_
  refine G_alen hC 4 13 (by omega) (v := 4) e_13 rfl rfl dX5_init_19 ?_
  refine G_icmp_ge hC 42 dX5_init_20 (by decide) (fun _ => ?_) (fun z => absurd (by decide) z)
  rw [ringF_mk] at e_13
  exact Kr ad _ _ _ hC ⟨hadT, e_12, e_13, (fun i hi => by match i, hi with | 0, _ => exact e_14 | 1, _ => exact e_25 | 2, _ => exact e_36 | 3, _ => exact e_47), henT⟩ dX5_init_42
set_option maxHeartbeats 4000000 in
set_option maxRecDepth 100000 in
theorem c_X9_init {D : va_G} {cs : Nat → ClassId} {sa : Nat → Nat} {ad : Nat → Nat} {A : Nat → Prop} (l : Launch) {en : Nat → va_E}  (e_81 : en 81 = .inr (6, [.null, .int 0])) : Met l yX9_init wsX9_init { frames := 1, cells := 1, slots := 300, locals := 12 } (va_Pc [.ref (ad 81)] (WdA D cs sa (82) ad A en)) (va_Qv (fun (u : (Nat → Nat) × (Nat → va_E)) => (∀ j, j < 82 → u.1 j = ad j) ∧ u.2 81 = .inr (6, [.ref (u.1 82), .int 0]) ∧ u.2 82 = .inl (cs 0, 300, .inl (fun _ => 0)) ∧ (∀ j, j < 82 → j ≠ 81 → u.2 j = en j)) (fun (u : (Nat → Nat) × (Nat → va_E)) => Wd D cs sa (83) u.1 A u.2) A) 1 300 A := by
  refine G_startA cX9_init 1 [(0, .ref (ad 81))] (by decide) rfl (Nat.le_of_ble_eq_true rfl) rfl ?_
  intro p e s m args below meth c Q hC hnm hA hO Kr
  have inX9 : ∀ w ∈ u_ws RX9 TX9 2, w ∈ wsX9_init := by decide +kernel
  have a_byte : Cond.arrayClass .byte ∈ wsX9_init := by decide +kernel
  have m11 : Cond.fieldLink RX9 11 "TongueTip$Text" "bytes" "[B" ∈ wsX9_init := by decide +kernel
  have oi1 : Cond.methodLink RX9 3 Lib.objectInit ∈ wsX9_init := by decide +kernel
  have oi2 : Cond.instanceMethod Lib.objectInit ∈ wsX9_init := by decide +kernel
  have oi3 : Cond.code Lib.objectInit ⟨#[0xb1]⟩ 1 none ∈ wsX9_init := by decide +kernel
  have hadT : ∀ j, j < 82 → ad j = ad j := fun _ _ => rfl
  have henT : ∀ j, j < 82 → j ≠ 81 → en j = en j := fun _ _ _ => rfl
  refine G_aload_n hC 0 0 rfl rfl dX9_init_0 ?_
  refine G_objInit hC oi1 oi2 oi3 (Nat.le_of_ble_eq_true rfl) (Nat.le_of_ble_eq_true rfl) dX9_init_1 ?_
  refine G_aload_n hC 0 0 rfl rfl dX9_init_4 ?_
  refine G_sipush hC (v := 300) (by decide) dX9_init_5 ?_
  refine G_newa hC hA (atype := .byte) 0 (300, .inl (fun _ => 0)) a_byte rfl rfl (fun cA => by first | rfl | exact vp_newI | exact vp_newL | (simp [vp_cell]; rfl)) (by decide) (by decide) (by decide) (Nat.le_of_ble_eq_true rfl) (Nat.le_of_ble_eq_true rfl) dX9_init_8 (fun ad en2 had hen e_new hC => ?_)
  have e_81 : en2 81 = .inr (6, [.null, .int 0]) := by rw [hen 81 (by omega)]; exact e_81
  have hadT : ∀ j, j < 82 → ad j = _ := fun j hj => (had j (by omega)).trans (hadT j hj)
  have henT : ∀ j, j < 82 → j ≠ 81 → en2 j = en j := fun j hj hj2 => (hen j (by omega)).trans (henT j hj hj2)
  have e_82 : en2 82 = .inl (cs 0, 300, .inl (fun _ => 0)) := e_new
  refine G_eq (lv' := [(0, .ref (ad 81))]) (st' := [.ref (ad 82), .ref (ad 81)]) (by rw [had 81 (by omega)]) (by rw [had 81 (by omega)]) (fun _ _ => rfl) ?_
  refine G_putF hC inX9 tyX9 tyX9_ok nmX9 81 (by omega) e_81 rfl 0 (by decide) m11 rfl rfl hnm rfl (ty := .array .byte) rfl rfl rfl (Nat.le_of_ble_eq_true rfl) dX9_init_10 (fun en3 e_81 fr => ?_)
  have e_81 : en3 81 = .inr (6, [.ref (ad 82), .int 0]) := e_81
  have e_82 := (fr 82 (by omega)).trans e_82
  have henT : ∀ j, j < 82 → j ≠ 81 → en3 j = en j := fun j hj hj2 => (fr j (by omega)).trans (henT j hj hj2)
  exact Kr ad _ _ _ hC ⟨hadT, e_81, e_82, henT⟩ dX9_init_13
set_option maxHeartbeats 4000000 in
set_option maxRecDepth 100000 in
theorem c_X3_init {D : va_G} {cs : Nat → ClassId} {sa : Nat → Nat} {ad : Nat → Nat} {A : Nat → Prop} (l : Launch) {en : Nat → va_E}  (e_98 : en 98 = .inr (1, [.null, .int 0])) : Met l yX3_init wsX3_init { frames := 1, cells := 1, slots := 1300, locals := 12 } (va_Pc [.ref (ad 98)] (WdA D cs sa (99) ad A en)) (va_Qv (fun (u : (Nat → Nat) × (Nat → va_E)) => (∀ j, j < 99 → u.1 j = ad j) ∧ u.2 98 = .inr (1, [.ref (u.1 99), .int 0]) ∧ u.2 99 = .inl (cs 1, 1300, .inl (fun _ => 0)) ∧ (∀ j, j < 99 → j ≠ 98 → u.2 j = en j)) (fun (u : (Nat → Nat) × (Nat → va_E)) => Wd D cs sa (100) u.1 A u.2) A) 1 1300 A := by
  refine G_startA cX3_init 1 [(0, .ref (ad 98))] (by decide) rfl (Nat.le_of_ble_eq_true rfl) rfl ?_
  intro p e s m args below meth c Q hC hnm hA hO Kr
  have inX3 : ∀ w ∈ u_ws RX3 TX3 2, w ∈ wsX3_init := by decide +kernel
  have a_int : Cond.arrayClass .int ∈ wsX3_init := by decide +kernel
  have m13 : Cond.fieldLink RX3 13 "TongueTip$Night" "most" "[I" ∈ wsX3_init := by decide +kernel
  have oi1 : Cond.methodLink RX3 3 Lib.objectInit ∈ wsX3_init := by decide +kernel
  have oi2 : Cond.instanceMethod Lib.objectInit ∈ wsX3_init := by decide +kernel
  have oi3 : Cond.code Lib.objectInit ⟨#[0xb1]⟩ 1 none ∈ wsX3_init := by decide +kernel
  have hadT : ∀ j, j < 99 → ad j = ad j := fun _ _ => rfl
  have henT : ∀ j, j < 99 → j ≠ 98 → en j = en j := fun _ _ _ => rfl
  refine G_aload_n hC 0 0 rfl rfl dX3_init_0 ?_
  refine G_objInit hC oi1 oi2 oi3 (Nat.le_of_ble_eq_true rfl) (Nat.le_of_ble_eq_true rfl) dX3_init_1 ?_
  refine G_aload_n hC 0 0 rfl rfl dX3_init_4 ?_
  refine G_sipush hC (v := 1300) (by decide) dX3_init_5 ?_
  refine G_newa hC hA (atype := .int) 1 (1300, .inl (fun _ => 0)) a_int rfl rfl (fun cA => by first | rfl | exact vp_newI | exact vp_newL | (simp [vp_cell]; rfl)) (by decide) (by decide) (by decide) (Nat.le_of_ble_eq_true rfl) (Nat.le_of_ble_eq_true rfl) dX3_init_8 (fun ad en2 had hen e_new hC => ?_)
  have e_98 : en2 98 = .inr (1, [.null, .int 0]) := by rw [hen 98 (by omega)]; exact e_98
  have hadT : ∀ j, j < 99 → ad j = _ := fun j hj => (had j (by omega)).trans (hadT j hj)
  have henT : ∀ j, j < 99 → j ≠ 98 → en2 j = en j := fun j hj hj2 => (hen j (by omega)).trans (henT j hj hj2)
  have e_99 : en2 99 = .inl (cs 1, 1300, .inl (fun _ => 0)) := e_new
  refine G_eq (lv' := [(0, .ref (ad 98))]) (st' := [.ref (ad 99), .ref (ad 98)]) (by rw [had 98 (by omega)]) (by rw [had 98 (by omega)]) (fun _ _ => rfl) ?_
  refine G_putF hC inX3 tyX3 tyX3_ok nmX3 98 (by omega) e_98 rfl 0 (by decide) m13 rfl rfl hnm rfl (ty := .array .int) rfl rfl rfl (Nat.le_of_ble_eq_true rfl) dX3_init_10 (fun en3 e_98 fr => ?_)
  have e_98 : en3 98 = .inr (1, [.ref (ad 99), .int 0]) := e_98
  have e_99 := (fr 99 (by omega)).trans e_99
  have henT : ∀ j, j < 99 → j ≠ 98 → en3 j = en j := fun j hj hj2 => (fr j (by omega)).trans (henT j hj hj2)
  exact Kr ad _ _ _ hC ⟨hadT, e_98, e_99, henT⟩ dX3_init_13
set_option maxHeartbeats 4000000 in
set_option maxRecDepth 100000 in
theorem c_X6_init {D : va_G} {cs : Nat → ClassId} {sa : Nat → Nat} {ad : Nat → Nat} {A : Nat → Prop} (l : Launch) {en : Nat → va_E} {q : HallV} (e_83 : en 83 = .inr (3, [.null, .null, .null, .int 0, .int 0, .int 0, .long 0, .int 0, .int 0, .int 0])) (hq : f_X1_init = some q) : Met l yX6_init wsX6_init { frames := 3, cells := 12, slots := 155, locals := 66 } (va_Pc [.ref (ad 83), .ref (ad 81)] (WdA D cs sa (84) ad A en)) (va_Qv (fun (u : (Nat → Nat) × (Nat → va_E)) => (∀ j, j < 84 → u.1 j = ad j) ∧ u.2 83 = .inr (3, [.ref (u.1 81), .ref (u.1 84), .ref (u.1 95), .int 0, .int 0, .int 0, .long 0, .int 0, .int 0, .int 0]) ∧ Hall cs u.1 u.2 84 q ∧ u.2 95 = .inl (cs 1, 5, .inl (fun _ => 0)) ∧ (∀ j, j < 84 → j ≠ 83 → u.2 j = en j)) (fun (u : (Nat → Nat) × (Nat → va_E)) => Wd D cs sa (96) u.1 A u.2) A) 12 155 A := by
  refine G_startA cX6_init 2 [(0, .ref (ad 83)), (1, .ref (ad 81))] (by decide) rfl (Nat.le_of_ble_eq_true rfl) rfl ?_
  intro p e s m args below meth c Q hC hnm hA hO Kr
  have inX1 : ∀ w ∈ u_ws RX1 TX1 6, w ∈ wsX6_init := by decide +kernel
  have inX6 : ∀ w ∈ u_ws RX6 TX6 10, w ∈ wsX6_init := by decide +kernel
  have a_int : Cond.arrayClass .int ∈ wsX6_init := by decide +kernel
  have i17 : Cond.methodLink RX6 17 yX1_init ∈ wsX6_init := by decide +kernel
  have iiX1_init : Cond.instanceMethod yX1_init ∈ wsX6_init := by decide +kernel
  have m18 : Cond.fieldLink RX6 18 "TongueTip$Reader" "draft" "LTongueTip$Hall;" ∈ wsX6_init := by decide +kernel
  have m22 : Cond.fieldLink RX6 22 "TongueTip$Reader" "numbers" "[I" ∈ wsX6_init := by decide +kernel
  have m9 : Cond.fieldLink RX6 9 "TongueTip$Reader" "text" "LTongueTip$Text;" ∈ wsX6_init := by decide +kernel
  have oi1 : Cond.methodLink RX6 3 Lib.objectInit ∈ wsX6_init := by decide +kernel
  have oi2 : Cond.instanceMethod Lib.objectInit ∈ wsX6_init := by decide +kernel
  have oi3 : Cond.code Lib.objectInit ⟨#[0xb1]⟩ 1 none ∈ wsX6_init := by decide +kernel
  have q15 : Cond.classLink RX6 15 RX1 ∈ wsX6_init := by decide +kernel
  have qiX1 : Cond.instantiable RX1 6 ∈ wsX6_init := by decide +kernel
  have qnX1 : Cond.initialized RX1 ∈ wsX6_init := by decide +kernel
  have hadT : ∀ j, j < 84 → ad j = ad j := fun _ _ => rfl
  have henT : ∀ j, j < 84 → j ≠ 83 → en j = en j := fun _ _ _ => rfl
  refine G_aload_n hC 0 0 rfl rfl dX6_init_0 ?_
  refine G_objInit hC oi1 oi2 oi3 (Nat.le_of_ble_eq_true rfl) (Nat.le_of_ble_eq_true rfl) dX6_init_1 ?_
  refine G_aload_n hC 0 0 rfl rfl dX6_init_4 ?_
  refine G_aload_n hC 1 1 rfl rfl dX6_init_5 ?_
  refine G_putF hC inX6 tyX6 tyX6_ok nmX6 83 (by omega) e_83 rfl 0 (by decide) m9 rfl rfl hnm rfl (ty := .object "TongueTip$Text") rfl rfl rfl (Nat.le_of_ble_eq_true rfl) dX6_init_6 (fun en2 e_83 fr => ?_)
  have e_83 : en2 83 = .inr (3, [.ref (ad 81), .null, .null, .int 0, .int 0, .int 0, .long 0, .int 0, .int 0, .int 0]) := e_83
  have henT : ∀ j, j < 84 → j ≠ 83 → en2 j = en j := fun j hj hj2 => (fr j (by omega)).trans (henT j hj hj2)
  refine G_aload_n hC 0 0 rfl rfl dX6_init_9 ?_
  refine G_newo hC hA (ci := 0) [.null, .null, .null, .null, .null, .int 0] inX1 tyX1 tyX1_ok q15 qiX1 qnX1 rfl (fun j hj => by rcases (show j = 0 ∨ j = 1 ∨ j = 2 ∨ j = 3 ∨ j = 4 ∨ j = 5 by omega) with rfl | rfl | rfl | rfl | rfl | rfl <;> rfl) (Nat.le_of_ble_eq_true rfl) (Nat.le_of_ble_eq_true rfl) dX6_init_10 (fun ad en3 had hen e_new hC => ?_)
  have e_83 : en3 83 = .inr (3, [.ref (ad 81), .null, .null, .int 0, .int 0, .int 0, .long 0, .int 0, .int 0, .int 0]) := by rw [hen 83 (by omega), had 81 (by omega)]; exact e_83
  have hadT : ∀ j, j < 84 → ad j = _ := fun j hj => (had j (by omega)).trans (hadT j hj)
  have henT : ∀ j, j < 84 → j ≠ 83 → en3 j = en j := fun j hj hj2 => (hen j (by omega)).trans (henT j hj hj2)
  have e_84 : en3 84 = .inr (0, [.null, .null, .null, .null, .null, .int 0]) := e_new
  refine G_eq (lv' := [(0, .ref (ad 83)), (1, .ref (ad 81))]) (st' := [.ref (ad 84), .ref (ad 83)]) (by rw [had 83 (by omega), had 81 (by omega)]) (by rw [had 83 (by omega)]) (fun _ _ => rfl) ?_
  refine G_dup hC rfl dX6_init_13 ?_
  refine G_cA (st := [.ref (ad 84), .ref (ad 83)]) hC hA hO _ 84 (c_X1_init (kk := 84) l e_84 hq) (cwI 0 hC.hts gX6_init_X1_init rfl rfl rfl (hC.hts _ qnX1) (hC.hts _ i17) (hC.hts _ iiX1_init) rfl (by decide +kernel) ⟨Nat.le_of_ble_eq_true rfl, Nat.le_of_ble_eq_true rfl⟩) rfl (Nat.le_of_ble_eq_true rfl) (Nat.le_of_ble_eq_true rfl) (Nat.le_of_ble_eq_true rfl) rfl dX6_init_14 (fun ad en4 hw hC => ?_)
  dsimp only at hw
  obtain ⟨had, H9, hen⟩ := hw
  have hen : ∀ j, j < 85 → j ≠ 84 → en4 j = _ := hen
  have e_83 : en4 83 = .inr (3, [.ref (ad 81), .null, .null, .int 0, .int 0, .int 0, .long 0, .int 0, .int 0, .int 0]) := by rw [hen 83 (by omega) (by omega), had 81 (by omega)]; exact e_83
  have hadT : ∀ j, j < 84 → ad j = _ := fun j hj => (had j (by omega)).trans (hadT j hj)
  have henT : ∀ j, j < 84 → j ≠ 83 → en4 j = en j := fun j hj hj2 => (hen j (by omega) (by omega)).trans (henT j hj hj2)
  have e_84 : Hall cs ad en4 84 q := H9
  refine G_eq (lv' := [(0, .ref (ad 83)), (1, .ref (ad 81))]) (st' := [.ref (ad 84), .ref (ad 83)]) (by rw [had 83 (by omega), had 81 (by omega)]) (by rw [had 84 (by omega), had 83 (by omega)]) (fun _ _ => rfl) ?_
  refine G_putF hC inX6 tyX6 tyX6_ok nmX6 83 (by omega) e_83 rfl 1 (by decide) m18 rfl rfl hnm rfl (ty := .object "TongueTip$Hall") rfl rfl rfl (Nat.le_of_ble_eq_true rfl) dX6_init_17 (fun en5 e_83 fr => ?_)
  have e_83 : en5 83 = .inr (3, [.ref (ad 81), .ref (ad 84), .null, .int 0, .int 0, .int 0, .long 0, .int 0, .int 0, .int 0]) := e_83
  have e_84 := e_84.fr (fun j h1 h2 => fr j (by omega))
  have henT : ∀ j, j < 84 → j ≠ 83 → en5 j = en j := fun j hj hj2 => (fr j (by omega)).trans (henT j hj hj2)
  refine G_aload_n hC 0 0 rfl rfl dX6_init_20 ?_
  refine G_iconst hC (v := 5) (by decide) dX6_init_21 ?_
  refine G_newa hC hA (atype := .int) 1 (5, .inl (fun _ => 0)) a_int rfl rfl (fun cA => by first | rfl | exact vp_newI | exact vp_newL | (simp [vp_cell]; rfl)) (by decide) (by decide) (by decide) (Nat.le_of_ble_eq_true rfl) (Nat.le_of_ble_eq_true rfl) dX6_init_22 (fun ad en6 had hen e_new hC => ?_)
  have e_83 : en6 83 = .inr (3, [.ref (ad 81), .ref (ad 84), .null, .int 0, .int 0, .int 0, .long 0, .int 0, .int 0, .int 0]) := by rw [hen 83 (by omega), had 81 (by omega), had 84 (by omega)]; exact e_83
  have e_84 : Hall cs ad en6 84 q := e_84.grow (fun j h1 h2 => had j (by omega)) (fun j h1 h2 => hen j (by omega))
  have hadT : ∀ j, j < 84 → ad j = _ := fun j hj => (had j (by omega)).trans (hadT j hj)
  have henT : ∀ j, j < 84 → j ≠ 83 → en6 j = en j := fun j hj hj2 => (hen j (by omega)).trans (henT j hj hj2)
  have e_95 : en6 95 = .inl (cs 1, 5, .inl (fun _ => 0)) := e_new
  refine G_eq (lv' := [(0, .ref (ad 83)), (1, .ref (ad 81))]) (st' := [.ref (ad 95), .ref (ad 83)]) (by rw [had 83 (by omega), had 81 (by omega)]) (by rw [had 83 (by omega)]) (fun _ _ => rfl) ?_
  refine G_putF hC inX6 tyX6 tyX6_ok nmX6 83 (by omega) e_83 rfl 2 (by decide) m22 rfl rfl hnm rfl (ty := .array .int) rfl rfl rfl (Nat.le_of_ble_eq_true rfl) dX6_init_24 (fun en7 e_83 fr => ?_)
  have e_83 : en7 83 = .inr (3, [.ref (ad 81), .ref (ad 84), .ref (ad 95), .int 0, .int 0, .int 0, .long 0, .int 0, .int 0, .int 0]) := e_83
  have e_84 := e_84.fr (fun j h1 h2 => fr j (by omega))
  have e_95 := (fr 95 (by omega)).trans e_95
  have henT : ∀ j, j < 84 → j ≠ 83 → en7 j = en j := fun j hj hj2 => (fr j (by omega)).trans (henT j hj hj2)
  exact Kr ad _ _ _ hC ⟨hadT, e_83, e_84, e_95, henT⟩ dX6_init_27
def f_X7_init_B75  (rL17 : (Nat → Int32) → Int32 → Int32 → Option ((Nat → Int32))) (rL28 : (Nat → Int32) → Int32 → Int32 → Int32 → Option ((Nat → Int32))) (rall : Nat → Int32) (x1 : Int32) (x2 : Int32) (x3 : Int32) : Option ((Nat → Int32)) := rL28 rall x1 x2 (x3 + (1 : Int32))
def f_X7_init_L28  (rL17 : (Nat → Int32) → Int32 → Int32 → Option ((Nat → Int32))) : Nat → (Nat → Int32) → Int32 → Int32 → Int32 → Option ((Nat → Int32))
  | 0, _, _, _, _ => none
  | fu + 1, rall, x1, x2, x3 => if (5 : Int32) < x3 then (rL17 rall x1 (x2 + (1 : Int32))) else (if Int32.ofNat 326 ≤ x1 then (f_X7_init_B75 rL17 (f_X7_init_L28 rL17 fu) rall x1 x2 x3) else (if x2 < 0 ∨ 326 ≤ x2.toNatClampNeg then none else (Option.bind (f_X7_hasDigit (rall x2.toNatClampNeg) x3) (fun q49 => if q49 = 0 then (if x2 < 0 ∨ 326 ≤ x2.toNatClampNeg then none else (if x1 < 0 ∨ 326 ≤ x1.toNatClampNeg then none else (f_X7_init_B75 rL17 (f_X7_init_L28 rL17 fu) (upd rall x1.toNatClampNeg (((rall x2.toNatClampNeg) * (10 : Int32)) + x3)) (x1 + (1 : Int32)) x2 x3))) else (f_X7_init_B75 rL17 (f_X7_init_L28 rL17 fu) rall x1 x2 x3)))))
def f_X7_init_L17   : Nat → (Nat → Int32) → Int32 → Int32 → Option ((Nat → Int32))
  | 0, _, _, _ => none
  | fu + 1, rall, x1, x2 => if Int32.ofNat 326 ≤ x2 then (some rall) else (f_X7_init_L28 (f_X7_init_L17 fu) FU rall x1 x2 (1 : Int32))
def f_X7_init   : Option ((Nat → Int32)) := f_X7_init_L17 FU (fun _ => 0) (1 : Int32) (0 : Int32)
set_option maxHeartbeats 4000000 in
set_option maxRecDepth 100000 in
theorem c_X7_init {D : va_G} {cs : Nat → ClassId} {sa : Nat → Nat} {ad : Nat → Nat} {A : Nat → Prop} (l : Launch) {en : Nat → va_E} {q : Nat → Int32} (e_96 : en 96 = .inr (4, [.null, .int 0, .int 0, .int 0, .int 0, .int 0, .long 0])) (h : f_X7_init = some q) : Met l yX7_init wsX7_init { frames := 1, cells := 1, slots := 326, locals := 23 } (va_Pc [.ref (ad 96)] (WdA D cs sa (97) ad A en)) (va_Qv (fun (u : (Nat → Nat) × (Nat → va_E)) => (∀ j, j < 97 → u.1 j = ad j) ∧ u.2 96 = .inr (4, [.ref (u.1 97), .int (0 : Int32), .int (0 : Int32), .int (0 : Int32), .int (0 : Int32), .int (0 : Int32), .long (0 : Int64)]) ∧ u.2 97 = .inl (cs 1, 326, .inl q) ∧ (∀ j, j < 97 → j ≠ 96 → u.2 j = en j)) (fun (u : (Nat → Nat) × (Nat → va_E)) => Wd D cs sa (98) u.1 A u.2) A) 1 326 A := by
  refine G_startA cX7_init 4 [(0, .ref (ad 96))] (by decide) rfl (Nat.le_of_ble_eq_true rfl) rfl ?_
  intro p e s m args below meth c Q hC hnm hA hO Kr
  have inX7 : ∀ w ∈ u_ws RX7 TX7 7, w ∈ wsX7_init := by decide +kernel
  have a_int : Cond.arrayClass .int ∈ wsX7_init := by decide +kernel
  have m9 : Cond.fieldLink RX7 9 "TongueTip$Rows" "all" "[I" ∈ wsX7_init := by decide +kernel
  have oi1 : Cond.methodLink RX7 1 Lib.objectInit ∈ wsX7_init := by decide +kernel
  have oi2 : Cond.instanceMethod Lib.objectInit ∈ wsX7_init := by decide +kernel
  have oi3 : Cond.code Lib.objectInit ⟨#[0xb1]⟩ 1 none ∈ wsX7_init := by decide +kernel
  have hadT : ∀ j, j < 97 → ad j = ad j := fun _ _ => rfl
  have henT : ∀ j, j < 97 → j ≠ 96 → en j = en j := fun _ _ _ => rfl
  refine G_aload_n hC 0 0 rfl rfl dX7_init_0 ?_
  refine G_objInit hC oi1 oi2 oi3 (Nat.le_of_ble_eq_true rfl) (Nat.le_of_ble_eq_true rfl) dX7_init_1 ?_
  refine G_aload_n hC 0 0 rfl rfl dX7_init_4 ?_
  refine G_sipush hC (v := 326) (by decide) dX7_init_5 ?_
  refine G_newa hC hA (atype := .int) 1 (326, .inl (fun _ => 0)) a_int rfl rfl (fun cA => by first | rfl | exact vp_newI | exact vp_newL | (simp [vp_cell]; rfl)) (by decide) (by decide) (by decide) (Nat.le_of_ble_eq_true rfl) (Nat.le_of_ble_eq_true rfl) dX7_init_8 (fun ad en2 had hen e_new hC => ?_)
  have e_96 : en2 96 = .inr (4, [.null, .int 0, .int 0, .int 0, .int 0, .int 0, .long 0]) := by rw [hen 96 (by omega)]; exact e_96
  have hadT : ∀ j, j < 97 → ad j = _ := fun j hj => (had j (by omega)).trans (hadT j hj)
  have henT : ∀ j, j < 97 → j ≠ 96 → en2 j = en j := fun j hj hj2 => (hen j (by omega)).trans (henT j hj hj2)
  have e_97 : en2 97 = .inl (cs 1, 326, .inl (fun _ => 0)) := e_new
  refine G_eq (lv' := [(0, .ref (ad 96))]) (st' := [.ref (ad 97), .ref (ad 96)]) (by rw [had 96 (by omega)]) (by rw [had 96 (by omega)]) (fun _ _ => rfl) ?_
  refine G_putF hC inX7 tyX7 tyX7_ok nmX7 96 (by omega) e_96 rfl 0 (by decide) m9 rfl rfl hnm rfl (ty := .array .int) rfl rfl rfl (Nat.le_of_ble_eq_true rfl) dX7_init_10 (fun en3 e_96 fr => ?_)
  have e_96 : en3 96 = .inr (4, [.ref (ad 97), .int 0, .int 0, .int 0, .int 0, .int 0, .long 0]) := e_96
  have e_97 := (fr 97 (by omega)).trans e_97
  have henT : ∀ j, j < 97 → j ≠ 96 → en3 j = en j := fun j hj hj2 => (fr j (by omega)).trans (henT j hj hj2)
  have e_rowso : en3 96 = .inr (4, [.ref (ad 97), .int (0 : Int32), .int (0 : Int32), .int (0 : Int32), .int (0 : Int32), .int (0 : Int32), .long (0 : Int64)]) := e_96
  have e_rallarr : en3 97 = .inl (cs 1, 326, .inl (fun _ => 0)) := e_97
  have hL17 : ∀ (fu17 : Nat), ∀ (en1 : Nat → va_E) (rall : Nat → Int32) (x1 : Int32) (x2 : Int32), en1 96 = .inr (4, [.ref (ad 97), .int (0 : Int32), .int (0 : Int32), .int (0 : Int32), .int (0 : Int32), .int (0 : Int32), .long (0 : Int64)]) → en1 97 = .inl (cs 1, 326, .inl (rall)) → (∀ j, j < 97 → j ≠ 96 → en1 j = en j) → f_X7_init_L17 fu17 rall x1 x2 = some q → G p l e ({ frames := 1, cells := 1, slots := 326, locals := 23 } : Room) s m args below meth c D 98 ad A 4 1 326 Q en1 17 [(0, .ref (ad 96)), (1, .int x1), (2, .int x2)] [] := by
    intro fu17
    induction fu17 with
    | zero =>
      intro en1 rall x1 x2 e_rowso e_rallarr henT h
      rw [f_X7_init_L17] at h
      cases h
    | succ fu17 ih17 =>
      have hL28 : ∀ (fu28 : Nat), ∀ (en1 : Nat → va_E) (rall : Nat → Int32) (x1 : Int32) (x2 : Int32) (x3 : Int32), en1 96 = .inr (4, [.ref (ad 97), .int (0 : Int32), .int (0 : Int32), .int (0 : Int32), .int (0 : Int32), .int (0 : Int32), .long (0 : Int64)]) → en1 97 = .inl (cs 1, 326, .inl (rall)) → (∀ j, j < 97 → j ≠ 96 → en1 j = en j) → f_X7_init_L28 (f_X7_init_L17 fu17) fu28 rall x1 x2 x3 = some q → G p l e ({ frames := 1, cells := 1, slots := 326, locals := 23 } : Room) s m args below meth c D 98 ad A 4 1 326 Q en1 28 [(0, .ref (ad 96)), (1, .int x1), (2, .int x2), (3, .int x3)] [] := by
        intro fu28
        induction fu28 with
        | zero =>
          intro en1 rall x1 x2 x3 e_rowso e_rallarr henT h
          rw [f_X7_init_L28] at h
          cases h
        | succ fu28 ih28 =>
          have hB75 : ∀ (en1 : Nat → va_E) (rall : Nat → Int32) (x1 : Int32) (x2 : Int32) (x3 : Int32), en1 96 = .inr (4, [.ref (ad 97), .int (0 : Int32), .int (0 : Int32), .int (0 : Int32), .int (0 : Int32), .int (0 : Int32), .long (0 : Int64)]) → en1 97 = .inl (cs 1, 326, .inl (rall)) → (∀ j, j < 97 → j ≠ 96 → en1 j = en j) → f_X7_init_B75 (f_X7_init_L17 fu17) (f_X7_init_L28 (f_X7_init_L17 fu17) fu28) rall x1 x2 x3 = some q → G p l e ({ frames := 1, cells := 1, slots := 326, locals := 23 } : Room) s m args below meth c D 98 ad A 4 1 326 Q en1 75 [(0, .ref (ad 96)), (1, .int x1), (2, .int x2), (3, .int x3)] [] := by
            intro en1 rall x1 x2 x3 e_rowso e_rallarr henT h
            unfold f_X7_init_B75 at h
            refine G_iinc hC 3 3 [(3, .int (x3 + (1 : Int32))), (0, .ref (ad 96)), (1, .int x1), (2, .int x2)] rfl rfl (by decide) rfl dX7_init_75 ?_
            refine G_goto hC 28 dX7_init_78 (by decide) ?_
            refine G_lv [1, 2, 3, 0] rfl ?_
            exact ih28 _ _ _ _ _ e_rowso e_rallarr henT h
          intro en1 rall x1 x2 x3 e_rowso e_rallarr henT h
          rw [f_X7_init_L28] at h
          refine G_iload_n hC 3 3 rfl rfl dX7_init_28 ?_
          refine G_iconst hC (v := 5) (by decide) dX7_init_29 ?_
          refine G_icmp_gt hC 81 dX7_init_30 (by decide) (fun c30 => ?_) (fun c30 => ?_)
          · have h := ifp c30 h
            refine G_iinc hC 2 2 [(2, .int (x2 + (1 : Int32))), (0, .ref (ad 96)), (1, .int x1), (3, .int x3)] rfl rfl (by decide) rfl dX7_init_81 ?_
            refine G_goto hC 17 dX7_init_84 (by decide) ?_
            refine G_lv [1, 2, 0] rfl ?_
            exact ih17 _ _ _ _ e_rowso e_rallarr henT h
          have h := ifn c30 h
          refine G_iload_n hC 1 1 rfl rfl dX7_init_33 ?_
          refine G_aload_n hC 0 0 rfl rfl dX7_init_34 ?_
          refine G_get hC inX7 96 (by omega) (v := .ref (ad 97)) e_rowso rfl 0 (by decide) m9 rfl rfl dX7_init_35 ?_
          refine G_alen hC 1 97 (by omega) e_rallarr rfl rfl dX7_init_38 ?_
          refine G_icmp_ge hC 75 dX7_init_39 (by decide) (fun c39 => ?_) (fun c39 => ?_)
          · have h := ifp c39 h
            refine G_lv [0, 1, 2, 3] rfl ?_
            exact hB75 _ _ _ _ _ e_rowso e_rallarr henT h
          have h := ifn c39 h
          refine G_aload_n hC 0 0 rfl rfl dX7_init_42 ?_
          refine G_get hC inX7 96 (by omega) (v := .ref (ad 97)) e_rowso rfl 0 (by decide) m9 rfl rfl dX7_init_43 ?_
          refine G_iload_n hC 2 2 rfl rfl dX7_init_46 ?_
          obtain ⟨g47, h⟩ := asn h
          refine G_iald hC 97 (by omega) e_rallarr g47 dX7_init_47 ?_
          refine G_iload_n hC 3 3 rfl rfl dX7_init_48 ?_
          obtain ⟨q49, h49, h⟩ := bnd h
          refine G_cSi (st := []) hC _ (c_X7_hasDigit  l  h49) (va_cwS 2 hC.hts gX7_init_X7_hasDigit rfl rfl rfl (by decide +kernel) ⟨Nat.le_of_ble_eq_true rfl, Nat.le_of_ble_eq_true rfl⟩) rfl (Nat.le_of_ble_eq_true rfl) (Nat.le_of_ble_eq_true rfl) (Nat.le_of_ble_eq_true rfl) rfl dX7_init_49 (fun r49 enx hw => ?_)
          obtain ⟨rfl, rfl⟩ := hw
          refine G_if_ne hC 75 dX7_init_52 (by decide) (fun c52 => ?_) (fun c52 => ?_)
          · have h := ifn c52 h
            refine G_lv [0, 1, 2, 3] rfl ?_
            exact hB75 _ _ _ _ _ e_rowso e_rallarr henT h
          have h := ifp c52 h
          refine G_aload_n hC 0 0 rfl rfl dX7_init_55 ?_
          refine G_get hC inX7 96 (by omega) (v := .ref (ad 97)) e_rowso rfl 0 (by decide) m9 rfl rfl dX7_init_56 ?_
          refine G_iload_n hC 1 1 rfl rfl dX7_init_59 ?_
          refine G_aload_n hC 0 0 rfl rfl dX7_init_60 ?_
          refine G_get hC inX7 96 (by omega) (v := .ref (ad 97)) e_rowso rfl 0 (by decide) m9 rfl rfl dX7_init_61 ?_
          refine G_iload_n hC 2 2 rfl rfl dX7_init_64 ?_
          obtain ⟨g65, h⟩ := asn h
          refine G_iald hC 97 (by omega) e_rallarr g65 dX7_init_65 ?_
          refine G_bipush hC (v := 10) (by decide) dX7_init_66 ?_
          refine G_imul hC dX7_init_68 ?_
          refine G_iload_n hC 3 3 rfl rfl dX7_init_69 ?_
          refine G_iadd hC dX7_init_70 ?_
          obtain ⟨g71, h⟩ := asn h
          refine G_iast hC 97 (by omega) e_rallarr g71 dX7_init_71 (fun en2 e_rallarr fr => ?_)
          have e_rallarr : en2 97 = .inl (cs 1, 326, .inl (upd rall x1.toNatClampNeg (((rall x2.toNatClampNeg) * (10 : Int32)) + x3))) := e_rallarr
          have e_rowso := (fr 96 (by omega)).trans e_rowso
          have henT : ∀ j, j < 97 → j ≠ 96 → en2 j = en j := fun j hj hj2 => (fr j (by omega)).trans (henT j hj hj2)
          refine G_iinc hC 1 1 [(1, .int (x1 + (1 : Int32))), (0, .ref (ad 96)), (2, .int x2), (3, .int x3)] rfl rfl (by decide) rfl dX7_init_72 ?_
          refine G_lv [1, 0, 2, 3] rfl ?_
          exact hB75 _ _ _ _ _ e_rowso e_rallarr henT h
      intro en1 rall x1 x2 e_rowso e_rallarr henT h
      rw [f_X7_init_L17] at h
      refine G_iload_n hC 2 2 rfl rfl dX7_init_17 ?_
      refine G_aload_n hC 0 0 rfl rfl dX7_init_18 ?_
      refine G_get hC inX7 96 (by omega) (v := .ref (ad 97)) e_rowso rfl 0 (by decide) m9 rfl rfl dX7_init_19 ?_
      refine G_alen hC 1 97 (by omega) e_rallarr rfl rfl dX7_init_22 ?_
      refine G_icmp_ge hC 87 dX7_init_23 (by decide) (fun c23 => ?_) (fun c23 => ?_)
      · have h := ifp c23 h
        have h := Option.some.inj h
        subst h
        exact Kr ad _ _ _ hC ⟨hadT, e_rowso, e_rallarr, henT⟩ dX7_init_87
      have h := ifn c23 h
      refine G_iconst hC (v := 1) (by decide) dX7_init_26 ?_
      refine G_istore_n hC 3 [(3, .int (1 : Int32)), (0, .ref (ad 96)), (1, .int x1), (2, .int x2)] rfl (by decide) rfl dX7_init_27 ?_
      refine G_lv [1, 2, 3, 0] rfl ?_
      exact hL28 FU _ _ _ _ _ e_rowso e_rallarr henT h
  unfold f_X7_init at h
  refine G_iconst hC (v := 1) (by decide) dX7_init_13 ?_
  refine G_istore_n hC 1 [(1, .int (1 : Int32)), (0, .ref (ad 96))] rfl (by decide) rfl dX7_init_14 ?_
  refine G_iconst hC (v := 0) (by decide) dX7_init_15 ?_
  refine G_istore_n hC 2 [(2, .int (0 : Int32)), (1, .int (1 : Int32)), (0, .ref (ad 96))] rfl (by decide) rfl dX7_init_16 ?_
  refine G_lv [2, 1, 0] rfl ?_
  exact hL17 FU _ _ _ _ e_rowso e_rallarr henT h
set_option maxHeartbeats 4000000 in
set_option maxRecDepth 100000 in
theorem c_X10_init {D : va_G} {cs : Nat → ClassId} {sa : Nat → Nat} {ad : Nat → Nat} {A : Nat → Prop} (l : Launch) {en : Nat → va_E} {q : HallV} {qa : Nat → Int32} (e_0 : en 0 = .inr (7, [.null, .null, .null, .null, .null, .null, .null, .int 0, .long 0, .long 0, .int 0, .int 0, .int 0])) (hq : f_X1_init = some q) (hqa : f_X7_init = some qa) : Met l yX10_init wsX10_init { frames := 4, cells := 99, slots := 3161, locals := 87 } (va_Pc [.ref (ad 0)] (WdA D cs sa (1) ad A en)) (va_Qv (fun (u : (Nat → Nat) × (Nat → va_E)) => (∀ j, j < 1 → u.1 j = ad j) ∧ u.2 0 = .inr (7, [.ref (u.1 1), .ref (u.1 12), .ref (u.1 58), .ref (u.1 81), .ref (u.1 83), .ref (u.1 96), .ref (u.1 98), .int 0, .long 0, .long 1, .int 0, .int 0, .int 0]) ∧ Hall cs u.1 u.2 1 q ∧ u.2 12 = .inr (2, [.ref (u.1 13), .int 0, .int 0]) ∧ u.2 13 = .inl (cs 4, 4, .inr (.inr (.inr (.inr (ringF u.1))))) ∧ (∀ i, i < 4 → Hall cs u.1 u.2 (14 + 11 * i) q) ∧ u.2 58 = .inl (cs 4, 2, .inr (.inr (.inr (.inr (imgF u.1))))) ∧ (∀ i, i < 2 → Hall cs u.1 u.2 (59 + 11 * i) q) ∧ u.2 81 = .inr (6, [.ref (u.1 82), .int 0]) ∧ u.2 82 = .inl (cs 0, 300, .inl (fun _ => 0)) ∧ u.2 83 = .inr (3, [.ref (u.1 81), .ref (u.1 84), .ref (u.1 95), .int 0, .int 0, .int 0, .long 0, .int 0, .int 0, .int 0]) ∧ Hall cs u.1 u.2 84 q ∧ u.2 95 = .inl (cs 1, 5, .inl (fun _ => 0)) ∧ u.2 96 = .inr (4, [.ref (u.1 97), .int (0 : Int32), .int (0 : Int32), .int (0 : Int32), .int (0 : Int32), .int (0 : Int32), .long (0 : Int64)]) ∧ u.2 97 = .inl (cs 1, 326, .inl qa) ∧ u.2 98 = .inr (1, [.ref (u.1 99), .int 0]) ∧ u.2 99 = .inl (cs 1, 1300, .inl (fun _ => 0)) ∧ (∀ j, j < 1 → j ≠ 0 → u.2 j = en j)) (fun (u : (Nat → Nat) × (Nat → va_E)) => Wd D cs sa (100) u.1 A u.2) A) 99 3161 A := by
  refine G_startA cX10_init 2 [(0, .ref (ad 0))] (by decide) rfl (Nat.le_of_ble_eq_true rfl) rfl ?_
  intro p e s m args below meth c Q hC hnm hA hO Kr
  have inX1 : ∀ w ∈ u_ws RX1 TX1 6, w ∈ wsX10_init := by decide +kernel
  have inX10 : ∀ w ∈ u_ws RX10 TX10 13, w ∈ wsX10_init := by decide +kernel
  have inX3 : ∀ w ∈ u_ws RX3 TX3 2, w ∈ wsX10_init := by decide +kernel
  have inX5 : ∀ w ∈ u_ws RX5 TX5 3, w ∈ wsX10_init := by decide +kernel
  have inX6 : ∀ w ∈ u_ws RX6 TX6 10, w ∈ wsX10_init := by decide +kernel
  have inX7 : ∀ w ∈ u_ws RX7 TX7 7, w ∈ wsX10_init := by decide +kernel
  have inX9 : ∀ w ∈ u_ws RX9 TX9 2, w ∈ wsX10_init := by decide +kernel
  have i18 : Cond.methodLink RX10 18 yX5_init ∈ wsX10_init := by decide +kernel
  have i29 : Cond.methodLink RX10 29 yX9_init ∈ wsX10_init := by decide +kernel
  have i36 : Cond.methodLink RX10 36 yX6_init ∈ wsX10_init := by decide +kernel
  have i45 : Cond.methodLink RX10 45 yX7_init ∈ wsX10_init := by decide +kernel
  have i52 : Cond.methodLink RX10 52 yX3_init ∈ wsX10_init := by decide +kernel
  have i9 : Cond.methodLink RX10 9 yX1_init ∈ wsX10_init := by decide +kernel
  have iiX1_init : Cond.instanceMethod yX1_init ∈ wsX10_init := by decide +kernel
  have iiX3_init : Cond.instanceMethod yX3_init ∈ wsX10_init := by decide +kernel
  have iiX5_init : Cond.instanceMethod yX5_init ∈ wsX10_init := by decide +kernel
  have iiX6_init : Cond.instanceMethod yX6_init ∈ wsX10_init := by decide +kernel
  have iiX7_init : Cond.instanceMethod yX7_init ∈ wsX10_init := by decide +kernel
  have iiX9_init : Cond.instanceMethod yX9_init ∈ wsX10_init := by decide +kernel
  have m10 : Cond.fieldLink RX10 10 "TongueTip" "now" "LTongueTip$Hall;" ∈ wsX10_init := by decide +kernel
  have m19 : Cond.fieldLink RX10 19 "TongueTip" "past" "LTongueTip$Past;" ∈ wsX10_init := by decide +kernel
  have m23 : Cond.fieldLink RX10 23 "TongueTip" "images" "[LTongueTip$Hall;" ∈ wsX10_init := by decide +kernel
  have m30 : Cond.fieldLink RX10 30 "TongueTip" "text" "LTongueTip$Text;" ∈ wsX10_init := by decide +kernel
  have m39 : Cond.fieldLink RX10 39 "TongueTip" "reader" "LTongueTip$Reader;" ∈ wsX10_init := by decide +kernel
  have m46 : Cond.fieldLink RX10 46 "TongueTip" "rows" "LTongueTip$Rows;" ∈ wsX10_init := by decide +kernel
  have m53 : Cond.fieldLink RX10 53 "TongueTip" "night" "LTongueTip$Night;" ∈ wsX10_init := by decide +kernel
  have m57 : Cond.fieldLink RX10 57 "TongueTip" "above" "J" ∈ wsX10_init := by decide +kernel
  have m61 : Cond.fieldLink RX10 61 "TongueTip" "below" "J" ∈ wsX10_init := by decide +kernel
  have oi1 : Cond.methodLink RX10 1 Lib.objectInit ∈ wsX10_init := by decide +kernel
  have oi2 : Cond.instanceMethod Lib.objectInit ∈ wsX10_init := by decide +kernel
  have oi3 : Cond.code Lib.objectInit ⟨#[0xb1]⟩ 1 none ∈ wsX10_init := by decide +kernel
  have q16 : Cond.classLink RX10 16 RX5 ∈ wsX10_init := by decide +kernel
  have q27 : Cond.classLink RX10 27 RX9 ∈ wsX10_init := by decide +kernel
  have q34 : Cond.classLink RX10 34 RX6 ∈ wsX10_init := by decide +kernel
  have q43 : Cond.classLink RX10 43 RX7 ∈ wsX10_init := by decide +kernel
  have q50 : Cond.classLink RX10 50 RX3 ∈ wsX10_init := by decide +kernel
  have q7 : Cond.classLink RX10 7 RX1 ∈ wsX10_init := by decide +kernel
  have qiX1 : Cond.instantiable RX1 6 ∈ wsX10_init := by decide +kernel
  have qiX3 : Cond.instantiable RX3 2 ∈ wsX10_init := by decide +kernel
  have qiX5 : Cond.instantiable RX5 3 ∈ wsX10_init := by decide +kernel
  have qiX6 : Cond.instantiable RX6 10 ∈ wsX10_init := by decide +kernel
  have qiX7 : Cond.instantiable RX7 7 ∈ wsX10_init := by decide +kernel
  have qiX9 : Cond.instantiable RX9 2 ∈ wsX10_init := by decide +kernel
  have qnX1 : Cond.initialized RX1 ∈ wsX10_init := by decide +kernel
  have qnX3 : Cond.initialized RX3 ∈ wsX10_init := by decide +kernel
  have qnX5 : Cond.initialized RX5 ∈ wsX10_init := by decide +kernel
  have qnX6 : Cond.initialized RX6 ∈ wsX10_init := by decide +kernel
  have qnX7 : Cond.initialized RX7 ∈ wsX10_init := by decide +kernel
  have qnX9 : Cond.initialized RX9 ∈ wsX10_init := by decide +kernel
  have hadT : ∀ j, j < 1 → ad j = ad j := fun _ _ => rfl
  have henT : ∀ j, j < 1 → j ≠ 0 → en j = en j := fun _ _ _ => rfl
  refine G_aload_n hC 0 0 rfl rfl dX10_init_0 ?_
  refine G_objInit hC oi1 oi2 oi3 (Nat.le_of_ble_eq_true rfl) (Nat.le_of_ble_eq_true rfl) dX10_init_1 ?_
  refine G_aload_n hC 0 0 rfl rfl dX10_init_4 ?_
  refine G_newo hC hA (ci := 0) [.null, .null, .null, .null, .null, .int 0] inX1 tyX1 tyX1_ok q7 qiX1 qnX1 rfl (fun j hj => by rcases (show j = 0 ∨ j = 1 ∨ j = 2 ∨ j = 3 ∨ j = 4 ∨ j = 5 by omega) with rfl | rfl | rfl | rfl | rfl | rfl <;> rfl) (Nat.le_of_ble_eq_true rfl) (Nat.le_of_ble_eq_true rfl) dX10_init_5 (fun ad en2 had hen e_new hC => ?_)
  have e_0 : en2 0 = .inr (7, [.null, .null, .null, .null, .null, .null, .null, .int 0, .long 0, .long 0, .int 0, .int 0, .int 0]) := by rw [hen 0 (by omega)]; exact e_0
  have hadT : ∀ j, j < 1 → ad j = _ := fun j hj => (had j (by omega)).trans (hadT j hj)
  have henT : ∀ j, j < 1 → j ≠ 0 → en2 j = en j := fun j hj hj2 => (hen j (by omega)).trans (henT j hj hj2)
  have e_1 : en2 1 = .inr (0, [.null, .null, .null, .null, .null, .int 0]) := e_new
  refine G_eq (lv' := [(0, .ref (ad 0))]) (st' := [.ref (ad 1), .ref (ad 0)]) (by rw [had 0 (by omega)]) (by rw [had 0 (by omega)]) (fun _ _ => rfl) ?_
  refine G_dup hC rfl dX10_init_8 ?_
  refine G_cA (st := [.ref (ad 1), .ref (ad 0)]) hC hA hO _ 1 (c_X1_init (kk := 1) l e_1 hq) (cwI 0 hC.hts gX10_init_X1_init rfl rfl rfl (hC.hts _ qnX1) (hC.hts _ i9) (hC.hts _ iiX1_init) rfl (by decide +kernel) ⟨Nat.le_of_ble_eq_true rfl, Nat.le_of_ble_eq_true rfl⟩) rfl (Nat.le_of_ble_eq_true rfl) (Nat.le_of_ble_eq_true rfl) (Nat.le_of_ble_eq_true rfl) rfl dX10_init_9 (fun ad en3 hw hC => ?_)
  dsimp only at hw
  obtain ⟨had, H9, hen⟩ := hw
  have hen : ∀ j, j < 2 → j ≠ 1 → en3 j = _ := hen
  have e_0 : en3 0 = .inr (7, [.null, .null, .null, .null, .null, .null, .null, .int 0, .long 0, .long 0, .int 0, .int 0, .int 0]) := by rw [hen 0 (by omega) (by omega)]; exact e_0
  have hadT : ∀ j, j < 1 → ad j = _ := fun j hj => (had j (by omega)).trans (hadT j hj)
  have henT : ∀ j, j < 1 → j ≠ 0 → en3 j = en j := fun j hj hj2 => (hen j (by omega) (by omega)).trans (henT j hj hj2)
  have e_1 : Hall cs ad en3 1 q := H9
  refine G_eq (lv' := [(0, .ref (ad 0))]) (st' := [.ref (ad 1), .ref (ad 0)]) (by rw [had 0 (by omega)]) (by rw [had 1 (by omega), had 0 (by omega)]) (fun _ _ => rfl) ?_
  refine G_putF hC inX10 tyX10 tyX10_ok nmX10 0 (by omega) e_0 rfl 0 (by decide) m10 rfl rfl hnm rfl (ty := .object "TongueTip$Hall") rfl rfl rfl (Nat.le_of_ble_eq_true rfl) dX10_init_12 (fun en4 e_0 fr => ?_)
  have e_0 : en4 0 = .inr (7, [.ref (ad 1), .null, .null, .null, .null, .null, .null, .int 0, .long 0, .long 0, .int 0, .int 0, .int 0]) := e_0
  have e_1 := e_1.fr (fun j h1 h2 => fr j (by omega))
  have henT : ∀ j, j < 1 → j ≠ 0 → en4 j = en j := fun j hj hj2 => (fr j (by omega)).trans (henT j hj hj2)
  refine G_aload_n hC 0 0 rfl rfl dX10_init_15 ?_
  refine G_newo hC hA (ci := 2) [.null, .int 0, .int 0] inX5 tyX5 tyX5_ok q16 qiX5 qnX5 rfl (fun j hj => by rcases (show j = 0 ∨ j = 1 ∨ j = 2 by omega) with rfl | rfl | rfl <;> rfl) (Nat.le_of_ble_eq_true rfl) (Nat.le_of_ble_eq_true rfl) dX10_init_16 (fun ad en5 had hen e_new hC => ?_)
  have e_0 : en5 0 = .inr (7, [.ref (ad 1), .null, .null, .null, .null, .null, .null, .int 0, .long 0, .long 0, .int 0, .int 0, .int 0]) := by rw [hen 0 (by omega), had 1 (by omega)]; exact e_0
  have e_1 : Hall cs ad en5 1 q := e_1.grow (fun j h1 h2 => had j (by omega)) (fun j h1 h2 => hen j (by omega))
  have hadT : ∀ j, j < 1 → ad j = _ := fun j hj => (had j (by omega)).trans (hadT j hj)
  have henT : ∀ j, j < 1 → j ≠ 0 → en5 j = en j := fun j hj hj2 => (hen j (by omega)).trans (henT j hj hj2)
  have e_12 : en5 12 = .inr (2, [.null, .int 0, .int 0]) := e_new
  refine G_eq (lv' := [(0, .ref (ad 0))]) (st' := [.ref (ad 12), .ref (ad 0)]) (by rw [had 0 (by omega)]) (by rw [had 0 (by omega)]) (fun _ _ => rfl) ?_
  refine G_dup hC rfl dX10_init_19 ?_
  refine G_cA (st := [.ref (ad 12), .ref (ad 0)]) hC hA hO _ 12 (c_X5_init l e_12 hq) (cwI 0 hC.hts gX10_init_X5_init rfl rfl rfl (hC.hts _ qnX5) (hC.hts _ i18) (hC.hts _ iiX5_init) rfl (by decide +kernel) ⟨Nat.le_of_ble_eq_true rfl, Nat.le_of_ble_eq_true rfl⟩) rfl (Nat.le_of_ble_eq_true rfl) (Nat.le_of_ble_eq_true rfl) (Nat.le_of_ble_eq_true rfl) rfl dX10_init_20 (fun ad en6 hw hC => ?_)
  dsimp only at hw
  obtain ⟨had, e1, e2, H9, hen⟩ := hw
  have hen : ∀ j, j < 13 → j ≠ 12 → en6 j = _ := hen
  have e_0 : en6 0 = .inr (7, [.ref (ad 1), .null, .null, .null, .null, .null, .null, .int 0, .long 0, .long 0, .int 0, .int 0, .int 0]) := by rw [hen 0 (by omega) (by omega), had 1 (by omega)]; exact e_0
  have e_1 : Hall cs ad en6 1 q := e_1.grow (fun j h1 h2 => had j (by omega)) (fun j h1 h2 => hen j (by omega) (by omega))
  have hadT : ∀ j, j < 1 → ad j = _ := fun j hj => (had j (by omega)).trans (hadT j hj)
  have henT : ∀ j, j < 1 → j ≠ 0 → en6 j = en j := fun j hj hj2 => (hen j (by omega) (by omega)).trans (henT j hj hj2)
  have e_12 : en6 12 = .inr (2, [.ref (ad 13), .int 0, .int 0]) := e1
  have e_13 : en6 13 = .inl (cs 4, 4, .inr (.inr (.inr (.inr (ringF ad))))) := e2
  have e_14 : Hall cs ad en6 14 q := (H9 0 (by decide))
  have e_25 : Hall cs ad en6 25 q := (H9 1 (by decide))
  have e_36 : Hall cs ad en6 36 q := (H9 2 (by decide))
  have e_47 : Hall cs ad en6 47 q := (H9 3 (by decide))
  refine G_eq (lv' := [(0, .ref (ad 0))]) (st' := [.ref (ad 12), .ref (ad 0)]) (by rw [had 0 (by omega)]) (by rw [had 12 (by omega), had 0 (by omega)]) (fun _ _ => rfl) ?_
  refine G_putF hC inX10 tyX10 tyX10_ok nmX10 0 (by omega) e_0 rfl 1 (by decide) m19 rfl rfl hnm rfl (ty := .object "TongueTip$Past") rfl rfl rfl (Nat.le_of_ble_eq_true rfl) dX10_init_23 (fun en7 e_0 fr => ?_)
  have e_0 : en7 0 = .inr (7, [.ref (ad 1), .ref (ad 12), .null, .null, .null, .null, .null, .int 0, .long 0, .long 0, .int 0, .int 0, .int 0]) := e_0
  have e_1 := e_1.fr (fun j h1 h2 => fr j (by omega))
  have e_12 := (fr 12 (by omega)).trans e_12
  have e_13 := (fr 13 (by omega)).trans e_13
  have e_14 := e_14.fr (fun j h1 h2 => fr j (by omega))
  have e_25 := e_25.fr (fun j h1 h2 => fr j (by omega))
  have e_36 := e_36.fr (fun j h1 h2 => fr j (by omega))
  have e_47 := e_47.fr (fun j h1 h2 => fr j (by omega))
  have henT : ∀ j, j < 1 → j ≠ 0 → en7 j = en j := fun j hj hj2 => (fr j (by omega)).trans (henT j hj hj2)
  refine G_aload_n hC 0 0 rfl rfl dX10_init_26 ?_
  refine G_iconst hC (v := 2) (by decide) dX10_init_27 ?_
  refine G_newr (N := 2) hC hA hO q7 (by decide) (by decide) (by decide) (Nat.le_of_ble_eq_true rfl) (Nat.le_of_ble_eq_true rfl) dX10_init_28 (fun ad en8 had hen e_new hC => ?_)
  have e_0 : en8 0 = .inr (7, [.ref (ad 1), .ref (ad 12), .null, .null, .null, .null, .null, .int 0, .long 0, .long 0, .int 0, .int 0, .int 0]) := by rw [hen 0 (by omega), had 1 (by omega), had 12 (by omega)]; exact e_0
  have e_1 : Hall cs ad en8 1 q := e_1.grow (fun j h1 h2 => had j (by omega)) (fun j h1 h2 => hen j (by omega))
  have e_12 : en8 12 = .inr (2, [.ref (ad 13), .int 0, .int 0]) := by rw [hen 12 (by omega), had 13 (by omega)]; exact e_12
  have e_13 : en8 13 = .inl (cs 4, 4, .inr (.inr (.inr (.inr (ringF ad))))) := by rw [hen 13 (by omega), ringF_gr (fun j hj => had j (by omega))]; exact e_13
  have e_14 : Hall cs ad en8 14 q := e_14.grow (fun j h1 h2 => had j (by omega)) (fun j h1 h2 => hen j (by omega))
  have e_25 : Hall cs ad en8 25 q := e_25.grow (fun j h1 h2 => had j (by omega)) (fun j h1 h2 => hen j (by omega))
  have e_36 : Hall cs ad en8 36 q := e_36.grow (fun j h1 h2 => had j (by omega)) (fun j h1 h2 => hen j (by omega))
  have e_47 : Hall cs ad en8 47 q := e_47.grow (fun j h1 h2 => had j (by omega)) (fun j h1 h2 => hen j (by omega))
  have hadT : ∀ j, j < 1 → ad j = _ := fun j hj => (had j (by omega)).trans (hadT j hj)
  have henT : ∀ j, j < 1 → j ≠ 0 → en8 j = en j := fun j hj hj2 => (hen j (by omega)).trans (henT j hj hj2)
  have e_58 : en8 58 = .inl (cs 4, 2, .inr (.inr (.inr (.inr (fun _ => none))))) := e_new
  refine G_eq (lv' := [(0, .ref (ad 0))]) (st' := [.ref (ad 58), .ref (ad 0)]) (by rw [had 0 (by omega)]) (by rw [had 0 (by omega)]) (fun _ _ => rfl) ?_
  refine G_putF hC inX10 tyX10 tyX10_ok nmX10 0 (by omega) e_0 rfl 2 (by decide) m23 rfl rfl hnm rfl (ty := .array (.object "TongueTip$Hall")) rfl rfl rfl (Nat.le_of_ble_eq_true rfl) dX10_init_31 (fun en9 e_0 fr => ?_)
  have e_0 : en9 0 = .inr (7, [.ref (ad 1), .ref (ad 12), .ref (ad 58), .null, .null, .null, .null, .int 0, .long 0, .long 0, .int 0, .int 0, .int 0]) := e_0
  have e_1 := e_1.fr (fun j h1 h2 => fr j (by omega))
  have e_12 := (fr 12 (by omega)).trans e_12
  have e_13 := (fr 13 (by omega)).trans e_13
  have e_14 := e_14.fr (fun j h1 h2 => fr j (by omega))
  have e_25 := e_25.fr (fun j h1 h2 => fr j (by omega))
  have e_36 := e_36.fr (fun j h1 h2 => fr j (by omega))
  have e_47 := e_47.fr (fun j h1 h2 => fr j (by omega))
  have e_58 := (fr 58 (by omega)).trans e_58
  have henT : ∀ j, j < 1 → j ≠ 0 → en9 j = en j := fun j hj hj2 => (fr j (by omega)).trans (henT j hj hj2)
  refine G_iconst hC (v := 0) (by decide) dX10_init_34 ?_
  refine G_istore_n hC 1 [(1, .int 0), (0, .ref (ad 0))] rfl (by decide) rfl dX10_init_35 ?_
  refine G_iload_n hC 1 0 rfl rfl dX10_init_36 ?_
  refine G_aload_n hC 0 1 rfl rfl dX10_init_37 ?_
  refine G_get hC inX10 0 (by omega) (v := .ref (ad 58)) e_0 rfl 2 (by decide) m23 rfl rfl dX10_init_38 ?_
  refine G_alen hC 4 58 (by omega) (v := 2) e_58 rfl rfl dX10_init_41 ?_
  refine G_icmp_ge hC 64 dX10_init_42 (by decide) (fun z => absurd z (by decide)) (fun _ => ?_)
  refine G_aload_n hC 0 1 rfl rfl dX10_init_45 ?_
  refine G_get hC inX10 0 (by omega) (v := .ref (ad 58)) e_0 rfl 2 (by decide) m23 rfl rfl dX10_init_46 ?_
  refine G_iload_n hC 1 0 rfl rfl dX10_init_49 ?_
  refine G_newo hC hA (ci := 0) [.null, .null, .null, .null, .null, .int 0] inX1 tyX1 tyX1_ok q7 qiX1 qnX1 rfl (fun j hj => by rcases (show j = 0 ∨ j = 1 ∨ j = 2 ∨ j = 3 ∨ j = 4 ∨ j = 5 by omega) with rfl | rfl | rfl | rfl | rfl | rfl <;> rfl) (Nat.le_of_ble_eq_true rfl) (Nat.le_of_ble_eq_true rfl) dX10_init_50 (fun ad en10 had hen e_new hC => ?_)
  have e_0 : en10 0 = .inr (7, [.ref (ad 1), .ref (ad 12), .ref (ad 58), .null, .null, .null, .null, .int 0, .long 0, .long 0, .int 0, .int 0, .int 0]) := by rw [hen 0 (by omega), had 1 (by omega), had 12 (by omega), had 58 (by omega)]; exact e_0
  have e_1 : Hall cs ad en10 1 q := e_1.grow (fun j h1 h2 => had j (by omega)) (fun j h1 h2 => hen j (by omega))
  have e_12 : en10 12 = .inr (2, [.ref (ad 13), .int 0, .int 0]) := by rw [hen 12 (by omega), had 13 (by omega)]; exact e_12
  have e_13 : en10 13 = .inl (cs 4, 4, .inr (.inr (.inr (.inr (ringF ad))))) := by rw [hen 13 (by omega), ringF_gr (fun j hj => had j (by omega))]; exact e_13
  have e_14 : Hall cs ad en10 14 q := e_14.grow (fun j h1 h2 => had j (by omega)) (fun j h1 h2 => hen j (by omega))
  have e_25 : Hall cs ad en10 25 q := e_25.grow (fun j h1 h2 => had j (by omega)) (fun j h1 h2 => hen j (by omega))
  have e_36 : Hall cs ad en10 36 q := e_36.grow (fun j h1 h2 => had j (by omega)) (fun j h1 h2 => hen j (by omega))
  have e_47 : Hall cs ad en10 47 q := e_47.grow (fun j h1 h2 => had j (by omega)) (fun j h1 h2 => hen j (by omega))
  have e_58 : en10 58 = .inl (cs 4, 2, .inr (.inr (.inr (.inr (fun _ => none))))) := by rw [hen 58 (by omega)]; exact e_58
  have hadT : ∀ j, j < 1 → ad j = _ := fun j hj => (had j (by omega)).trans (hadT j hj)
  have henT : ∀ j, j < 1 → j ≠ 0 → en10 j = en j := fun j hj hj2 => (hen j (by omega)).trans (henT j hj hj2)
  have e_59 : en10 59 = .inr (0, [.null, .null, .null, .null, .null, .int 0]) := e_new
  refine G_eq (lv' := [(1, .int 0), (0, .ref (ad 0))]) (st' := [.ref (ad 59), .int 0, .ref (ad 58)]) (by rw [had 0 (by omega)]) (by rw [had 58 (by omega)]) (fun _ _ => rfl) ?_
  refine G_dup hC rfl dX10_init_53 ?_
  refine G_cA (st := [.ref (ad 59), .int 0, .ref (ad 58)]) hC hA hO _ 59 (c_X1_init (kk := 59) l e_59 hq) (cwI 0 hC.hts gX10_init_X1_init rfl rfl rfl (hC.hts _ qnX1) (hC.hts _ i9) (hC.hts _ iiX1_init) rfl (by decide +kernel) ⟨Nat.le_of_ble_eq_true rfl, Nat.le_of_ble_eq_true rfl⟩) rfl (Nat.le_of_ble_eq_true rfl) (Nat.le_of_ble_eq_true rfl) (Nat.le_of_ble_eq_true rfl) rfl dX10_init_54 (fun ad en11 hw hC => ?_)
  dsimp only at hw
  obtain ⟨had, H9, hen⟩ := hw
  have hen : ∀ j, j < 60 → j ≠ 59 → en11 j = _ := hen
  have e_0 : en11 0 = .inr (7, [.ref (ad 1), .ref (ad 12), .ref (ad 58), .null, .null, .null, .null, .int 0, .long 0, .long 0, .int 0, .int 0, .int 0]) := by rw [hen 0 (by omega) (by omega), had 1 (by omega), had 12 (by omega), had 58 (by omega)]; exact e_0
  have e_1 : Hall cs ad en11 1 q := e_1.grow (fun j h1 h2 => had j (by omega)) (fun j h1 h2 => hen j (by omega) (by omega))
  have e_12 : en11 12 = .inr (2, [.ref (ad 13), .int 0, .int 0]) := by rw [hen 12 (by omega) (by omega), had 13 (by omega)]; exact e_12
  have e_13 : en11 13 = .inl (cs 4, 4, .inr (.inr (.inr (.inr (ringF ad))))) := by rw [hen 13 (by omega) (by omega), ringF_gr (fun j hj => had j (by omega))]; exact e_13
  have e_14 : Hall cs ad en11 14 q := e_14.grow (fun j h1 h2 => had j (by omega)) (fun j h1 h2 => hen j (by omega) (by omega))
  have e_25 : Hall cs ad en11 25 q := e_25.grow (fun j h1 h2 => had j (by omega)) (fun j h1 h2 => hen j (by omega) (by omega))
  have e_36 : Hall cs ad en11 36 q := e_36.grow (fun j h1 h2 => had j (by omega)) (fun j h1 h2 => hen j (by omega) (by omega))
  have e_47 : Hall cs ad en11 47 q := e_47.grow (fun j h1 h2 => had j (by omega)) (fun j h1 h2 => hen j (by omega) (by omega))
  have e_58 : en11 58 = .inl (cs 4, 2, .inr (.inr (.inr (.inr (fun _ => none))))) := by rw [hen 58 (by omega) (by omega)]; exact e_58
  have hadT : ∀ j, j < 1 → ad j = _ := fun j hj => (had j (by omega)).trans (hadT j hj)
  have henT : ∀ j, j < 1 → j ≠ 0 → en11 j = en j := fun j hj hj2 => (hen j (by omega) (by omega)).trans (henT j hj hj2)
  have e_59 : Hall cs ad en11 59 q := H9
  refine G_eq (lv' := [(1, .int 0), (0, .ref (ad 0))]) (st' := [.ref (ad 59), .int 0, .ref (ad 58)]) (by rw [had 0 (by omega)]) (by rw [had 59 (by omega), had 58 (by omega)]) (fun _ _ => rfl) ?_
  refine G_astq hC 58 59 (by omega) (by omega) e_58 (e_59 0 (by decide)) (by decide) dX10_init_57 (fun en12 e_58 fr => ?_)
  have e_58 : en12 58 = .inl (cs 4, 2, .inr (.inr (.inr (.inr (va_up (fun _ => none) 0 (some (ad 59))))))) := e_58
  have e_0 := (fr 0 (by omega)).trans e_0
  have e_1 := e_1.fr (fun j h1 h2 => fr j (by omega))
  have e_12 := (fr 12 (by omega)).trans e_12
  have e_13 := (fr 13 (by omega)).trans e_13
  have e_14 := e_14.fr (fun j h1 h2 => fr j (by omega))
  have e_25 := e_25.fr (fun j h1 h2 => fr j (by omega))
  have e_36 := e_36.fr (fun j h1 h2 => fr j (by omega))
  have e_47 := e_47.fr (fun j h1 h2 => fr j (by omega))
  have e_59 := e_59.fr (fun j h1 h2 => fr j (by omega))
  have henT : ∀ j, j < 1 → j ≠ 0 → en12 j = en j := fun j hj hj2 => (fr j (by omega)).trans (henT j hj hj2)
  refine G_iinc hC 1 0 (v := 1) [(1, .int 1), (0, .ref (ad 0))] rfl (by decide) (by decide) rfl dX10_init_58 ?_
  refine G_goto hC 36 dX10_init_61 (by decide) ?_
  refine G_iload_n hC 1 0 rfl rfl dX10_init_36 ?_
  refine G_aload_n hC 0 1 rfl rfl dX10_init_37 ?_
  refine G_get hC inX10 0 (by omega) (v := .ref (ad 58)) e_0 rfl 2 (by decide) m23 rfl rfl dX10_init_38 ?_
  refine G_alen hC 4 58 (by omega) (v := 2) e_58 rfl rfl dX10_init_41 ?_
  refine G_icmp_ge hC 64 dX10_init_42 (by decide) (fun z => absurd z (by decide)) (fun _ => ?_)
  refine G_aload_n hC 0 1 rfl rfl dX10_init_45 ?_
  refine G_get hC inX10 0 (by omega) (v := .ref (ad 58)) e_0 rfl 2 (by decide) m23 rfl rfl dX10_init_46 ?_
  refine G_iload_n hC 1 0 rfl rfl dX10_init_49 ?_
  refine G_newo hC hA (ci := 0) [.null, .null, .null, .null, .null, .int 0] inX1 tyX1 tyX1_ok q7 qiX1 qnX1 rfl (fun j hj => by rcases (show j = 0 ∨ j = 1 ∨ j = 2 ∨ j = 3 ∨ j = 4 ∨ j = 5 by omega) with rfl | rfl | rfl | rfl | rfl | rfl <;> rfl) (Nat.le_of_ble_eq_true rfl) (Nat.le_of_ble_eq_true rfl) dX10_init_50 (fun ad en13 had hen e_new hC => ?_)
  have e_0 : en13 0 = .inr (7, [.ref (ad 1), .ref (ad 12), .ref (ad 58), .null, .null, .null, .null, .int 0, .long 0, .long 0, .int 0, .int 0, .int 0]) := by rw [hen 0 (by omega), had 1 (by omega), had 12 (by omega), had 58 (by omega)]; exact e_0
  have e_1 : Hall cs ad en13 1 q := e_1.grow (fun j h1 h2 => had j (by omega)) (fun j h1 h2 => hen j (by omega))
  have e_12 : en13 12 = .inr (2, [.ref (ad 13), .int 0, .int 0]) := by rw [hen 12 (by omega), had 13 (by omega)]; exact e_12
  have e_13 : en13 13 = .inl (cs 4, 4, .inr (.inr (.inr (.inr (ringF ad))))) := by rw [hen 13 (by omega), ringF_gr (fun j hj => had j (by omega))]; exact e_13
  have e_14 : Hall cs ad en13 14 q := e_14.grow (fun j h1 h2 => had j (by omega)) (fun j h1 h2 => hen j (by omega))
  have e_25 : Hall cs ad en13 25 q := e_25.grow (fun j h1 h2 => had j (by omega)) (fun j h1 h2 => hen j (by omega))
  have e_36 : Hall cs ad en13 36 q := e_36.grow (fun j h1 h2 => had j (by omega)) (fun j h1 h2 => hen j (by omega))
  have e_47 : Hall cs ad en13 47 q := e_47.grow (fun j h1 h2 => had j (by omega)) (fun j h1 h2 => hen j (by omega))
  have e_58 : en13 58 = .inl (cs 4, 2, .inr (.inr (.inr (.inr (va_up (fun _ => none) 0 (some (ad 59))))))) := by rw [hen 58 (by omega), had 59 (by omega)]; exact e_58
  have e_59 : Hall cs ad en13 59 q := e_59.grow (fun j h1 h2 => had j (by omega)) (fun j h1 h2 => hen j (by omega))
  have hadT : ∀ j, j < 1 → ad j = _ := fun j hj => (had j (by omega)).trans (hadT j hj)
  have henT : ∀ j, j < 1 → j ≠ 0 → en13 j = en j := fun j hj hj2 => (hen j (by omega)).trans (henT j hj hj2)
  have e_70 : en13 70 = .inr (0, [.null, .null, .null, .null, .null, .int 0]) := e_new
  refine G_eq (lv' := [(1, .int 1), (0, .ref (ad 0))]) (st' := [.ref (ad 70), .int 1, .ref (ad 58)]) (by rw [had 0 (by omega)]) (by rw [had 58 (by omega)]) (fun _ _ => rfl) ?_
  refine G_dup hC rfl dX10_init_53 ?_
  refine G_cA (st := [.ref (ad 70), .int 1, .ref (ad 58)]) hC hA hO _ 70 (c_X1_init (kk := 70) l e_70 hq) (cwI 0 hC.hts gX10_init_X1_init rfl rfl rfl (hC.hts _ qnX1) (hC.hts _ i9) (hC.hts _ iiX1_init) rfl (by decide +kernel) ⟨Nat.le_of_ble_eq_true rfl, Nat.le_of_ble_eq_true rfl⟩) rfl (Nat.le_of_ble_eq_true rfl) (Nat.le_of_ble_eq_true rfl) (Nat.le_of_ble_eq_true rfl) rfl dX10_init_54 (fun ad en14 hw hC => ?_)
  dsimp only at hw
  obtain ⟨had, H9, hen⟩ := hw
  have hen : ∀ j, j < 71 → j ≠ 70 → en14 j = _ := hen
  have e_0 : en14 0 = .inr (7, [.ref (ad 1), .ref (ad 12), .ref (ad 58), .null, .null, .null, .null, .int 0, .long 0, .long 0, .int 0, .int 0, .int 0]) := by rw [hen 0 (by omega) (by omega), had 1 (by omega), had 12 (by omega), had 58 (by omega)]; exact e_0
  have e_1 : Hall cs ad en14 1 q := e_1.grow (fun j h1 h2 => had j (by omega)) (fun j h1 h2 => hen j (by omega) (by omega))
  have e_12 : en14 12 = .inr (2, [.ref (ad 13), .int 0, .int 0]) := by rw [hen 12 (by omega) (by omega), had 13 (by omega)]; exact e_12
  have e_13 : en14 13 = .inl (cs 4, 4, .inr (.inr (.inr (.inr (ringF ad))))) := by rw [hen 13 (by omega) (by omega), ringF_gr (fun j hj => had j (by omega))]; exact e_13
  have e_14 : Hall cs ad en14 14 q := e_14.grow (fun j h1 h2 => had j (by omega)) (fun j h1 h2 => hen j (by omega) (by omega))
  have e_25 : Hall cs ad en14 25 q := e_25.grow (fun j h1 h2 => had j (by omega)) (fun j h1 h2 => hen j (by omega) (by omega))
  have e_36 : Hall cs ad en14 36 q := e_36.grow (fun j h1 h2 => had j (by omega)) (fun j h1 h2 => hen j (by omega) (by omega))
  have e_47 : Hall cs ad en14 47 q := e_47.grow (fun j h1 h2 => had j (by omega)) (fun j h1 h2 => hen j (by omega) (by omega))
  have e_58 : en14 58 = .inl (cs 4, 2, .inr (.inr (.inr (.inr (va_up (fun _ => none) 0 (some (ad 59))))))) := by rw [hen 58 (by omega) (by omega), had 59 (by omega)]; exact e_58
  have e_59 : Hall cs ad en14 59 q := e_59.grow (fun j h1 h2 => had j (by omega)) (fun j h1 h2 => hen j (by omega) (by omega))
  have hadT : ∀ j, j < 1 → ad j = _ := fun j hj => (had j (by omega)).trans (hadT j hj)
  have henT : ∀ j, j < 1 → j ≠ 0 → en14 j = en j := fun j hj hj2 => (hen j (by omega) (by omega)).trans (henT j hj hj2)
  have e_70 : Hall cs ad en14 70 q := H9
  refine G_eq (lv' := [(1, .int 1), (0, .ref (ad 0))]) (st' := [.ref (ad 70), .int 1, .ref (ad 58)]) (by rw [had 0 (by omega)]) (by rw [had 70 (by omega), had 58 (by omega)]) (fun _ _ => rfl) ?_
  refine G_astq hC 58 70 (by omega) (by omega) e_58 (e_70 0 (by decide)) (by decide) dX10_init_57 (fun en15 e_58 fr => ?_)
  have e_58 : en15 58 = .inl (cs 4, 2, .inr (.inr (.inr (.inr (va_up (va_up (fun _ => none) 0 (some (ad 59))) 1 (some (ad 70))))))) := e_58
  have e_0 := (fr 0 (by omega)).trans e_0
  have e_1 := e_1.fr (fun j h1 h2 => fr j (by omega))
  have e_12 := (fr 12 (by omega)).trans e_12
  have e_13 := (fr 13 (by omega)).trans e_13
  have e_14 := e_14.fr (fun j h1 h2 => fr j (by omega))
  have e_25 := e_25.fr (fun j h1 h2 => fr j (by omega))
  have e_36 := e_36.fr (fun j h1 h2 => fr j (by omega))
  have e_47 := e_47.fr (fun j h1 h2 => fr j (by omega))
  have e_59 := e_59.fr (fun j h1 h2 => fr j (by omega))
  have e_70 := e_70.fr (fun j h1 h2 => fr j (by omega))
  have henT : ∀ j, j < 1 → j ≠ 0 → en15 j = en j := fun j hj hj2 => (fr j (by omega)).trans (henT j hj hj2)
  refine G_iinc hC 1 0 (v := 2) [(1, .int 2), (0, .ref (ad 0))] rfl (by decide) (by decide) rfl dX10_init_58 ?_
  refine G_goto hC 36 dX10_init_61 (by decide) ?_
  refine G_iload_n hC 1 0 rfl rfl dX10_init_36 ?_
  refine G_aload_n hC 0 1 rfl rfl dX10_init_37 ?_
  refine G_get hC inX10 0 (by omega) (v := .ref (ad 58)) e_0 rfl 2 (by decide) m23 rfl rfl dX10_init_38 ?_
  refine G_alen hC 4 58 (by omega) (v := 2) e_58 rfl rfl dX10_init_41 ?_
  refine G_icmp_ge hC 64 dX10_init_42 (by decide) (fun _ => ?_) (fun z => absurd (by decide) z)
  refine G_aload_n hC 0 1 rfl rfl dX10_init_64 ?_
  refine G_newo hC hA (ci := 6) [.null, .int 0] inX9 tyX9 tyX9_ok q27 qiX9 qnX9 rfl (fun j hj => by rcases (show j = 0 ∨ j = 1 by omega) with rfl | rfl <;> rfl) (Nat.le_of_ble_eq_true rfl) (Nat.le_of_ble_eq_true rfl) dX10_init_65 (fun ad en16 had hen e_new hC => ?_)
  have e_0 : en16 0 = .inr (7, [.ref (ad 1), .ref (ad 12), .ref (ad 58), .null, .null, .null, .null, .int 0, .long 0, .long 0, .int 0, .int 0, .int 0]) := by rw [hen 0 (by omega), had 1 (by omega), had 12 (by omega), had 58 (by omega)]; exact e_0
  have e_1 : Hall cs ad en16 1 q := e_1.grow (fun j h1 h2 => had j (by omega)) (fun j h1 h2 => hen j (by omega))
  have e_12 : en16 12 = .inr (2, [.ref (ad 13), .int 0, .int 0]) := by rw [hen 12 (by omega), had 13 (by omega)]; exact e_12
  have e_13 : en16 13 = .inl (cs 4, 4, .inr (.inr (.inr (.inr (ringF ad))))) := by rw [hen 13 (by omega), ringF_gr (fun j hj => had j (by omega))]; exact e_13
  have e_14 : Hall cs ad en16 14 q := e_14.grow (fun j h1 h2 => had j (by omega)) (fun j h1 h2 => hen j (by omega))
  have e_25 : Hall cs ad en16 25 q := e_25.grow (fun j h1 h2 => had j (by omega)) (fun j h1 h2 => hen j (by omega))
  have e_36 : Hall cs ad en16 36 q := e_36.grow (fun j h1 h2 => had j (by omega)) (fun j h1 h2 => hen j (by omega))
  have e_47 : Hall cs ad en16 47 q := e_47.grow (fun j h1 h2 => had j (by omega)) (fun j h1 h2 => hen j (by omega))
  have e_58 : en16 58 = .inl (cs 4, 2, .inr (.inr (.inr (.inr (va_up (va_up (fun _ => none) 0 (some (ad 59))) 1 (some (ad 70))))))) := by rw [hen 58 (by omega), had 59 (by omega), had 70 (by omega)]; exact e_58
  have e_59 : Hall cs ad en16 59 q := e_59.grow (fun j h1 h2 => had j (by omega)) (fun j h1 h2 => hen j (by omega))
  have e_70 : Hall cs ad en16 70 q := e_70.grow (fun j h1 h2 => had j (by omega)) (fun j h1 h2 => hen j (by omega))
  have hadT : ∀ j, j < 1 → ad j = _ := fun j hj => (had j (by omega)).trans (hadT j hj)
  have henT : ∀ j, j < 1 → j ≠ 0 → en16 j = en j := fun j hj hj2 => (hen j (by omega)).trans (henT j hj hj2)
  have e_81 : en16 81 = .inr (6, [.null, .int 0]) := e_new
  refine G_eq (lv' := [(1, .int 2), (0, .ref (ad 0))]) (st' := [.ref (ad 81), .ref (ad 0)]) (by rw [had 0 (by omega)]) (by rw [had 0 (by omega)]) (fun _ _ => rfl) ?_
  refine G_dup hC rfl dX10_init_68 ?_
  refine G_cA (st := [.ref (ad 81), .ref (ad 0)]) hC hA hO _ 81 (c_X9_init l e_81) (cwI 0 hC.hts gX10_init_X9_init rfl rfl rfl (hC.hts _ qnX9) (hC.hts _ i29) (hC.hts _ iiX9_init) rfl (by decide +kernel) ⟨Nat.le_of_ble_eq_true rfl, Nat.le_of_ble_eq_true rfl⟩) rfl (Nat.le_of_ble_eq_true rfl) (Nat.le_of_ble_eq_true rfl) (Nat.le_of_ble_eq_true rfl) rfl dX10_init_69 (fun ad en17 hw hC => ?_)
  dsimp only at hw
  obtain ⟨had, e1, e2, hen⟩ := hw
  have hen : ∀ j, j < 82 → j ≠ 81 → en17 j = _ := hen
  have e_0 : en17 0 = .inr (7, [.ref (ad 1), .ref (ad 12), .ref (ad 58), .null, .null, .null, .null, .int 0, .long 0, .long 0, .int 0, .int 0, .int 0]) := by rw [hen 0 (by omega) (by omega), had 1 (by omega), had 12 (by omega), had 58 (by omega)]; exact e_0
  have e_1 : Hall cs ad en17 1 q := e_1.grow (fun j h1 h2 => had j (by omega)) (fun j h1 h2 => hen j (by omega) (by omega))
  have e_12 : en17 12 = .inr (2, [.ref (ad 13), .int 0, .int 0]) := by rw [hen 12 (by omega) (by omega), had 13 (by omega)]; exact e_12
  have e_13 : en17 13 = .inl (cs 4, 4, .inr (.inr (.inr (.inr (ringF ad))))) := by rw [hen 13 (by omega) (by omega), ringF_gr (fun j hj => had j (by omega))]; exact e_13
  have e_14 : Hall cs ad en17 14 q := e_14.grow (fun j h1 h2 => had j (by omega)) (fun j h1 h2 => hen j (by omega) (by omega))
  have e_25 : Hall cs ad en17 25 q := e_25.grow (fun j h1 h2 => had j (by omega)) (fun j h1 h2 => hen j (by omega) (by omega))
  have e_36 : Hall cs ad en17 36 q := e_36.grow (fun j h1 h2 => had j (by omega)) (fun j h1 h2 => hen j (by omega) (by omega))
  have e_47 : Hall cs ad en17 47 q := e_47.grow (fun j h1 h2 => had j (by omega)) (fun j h1 h2 => hen j (by omega) (by omega))
  have e_58 : en17 58 = .inl (cs 4, 2, .inr (.inr (.inr (.inr (va_up (va_up (fun _ => none) 0 (some (ad 59))) 1 (some (ad 70))))))) := by rw [hen 58 (by omega) (by omega), had 59 (by omega), had 70 (by omega)]; exact e_58
  have e_59 : Hall cs ad en17 59 q := e_59.grow (fun j h1 h2 => had j (by omega)) (fun j h1 h2 => hen j (by omega) (by omega))
  have e_70 : Hall cs ad en17 70 q := e_70.grow (fun j h1 h2 => had j (by omega)) (fun j h1 h2 => hen j (by omega) (by omega))
  have hadT : ∀ j, j < 1 → ad j = _ := fun j hj => (had j (by omega)).trans (hadT j hj)
  have henT : ∀ j, j < 1 → j ≠ 0 → en17 j = en j := fun j hj hj2 => (hen j (by omega) (by omega)).trans (henT j hj hj2)
  have e_81 : en17 81 = .inr (6, [.ref (ad 82), .int 0]) := e1
  have e_82 : en17 82 = .inl (cs 0, 300, .inl (fun _ => 0)) := e2
  refine G_eq (lv' := [(1, .int 2), (0, .ref (ad 0))]) (st' := [.ref (ad 81), .ref (ad 0)]) (by rw [had 0 (by omega)]) (by rw [had 81 (by omega), had 0 (by omega)]) (fun _ _ => rfl) ?_
  refine G_putF hC inX10 tyX10 tyX10_ok nmX10 0 (by omega) e_0 rfl 3 (by decide) m30 rfl rfl hnm rfl (ty := .object "TongueTip$Text") rfl rfl rfl (Nat.le_of_ble_eq_true rfl) dX10_init_72 (fun en18 e_0 fr => ?_)
  have e_0 : en18 0 = .inr (7, [.ref (ad 1), .ref (ad 12), .ref (ad 58), .ref (ad 81), .null, .null, .null, .int 0, .long 0, .long 0, .int 0, .int 0, .int 0]) := e_0
  have e_1 := e_1.fr (fun j h1 h2 => fr j (by omega))
  have e_12 := (fr 12 (by omega)).trans e_12
  have e_13 := (fr 13 (by omega)).trans e_13
  have e_14 := e_14.fr (fun j h1 h2 => fr j (by omega))
  have e_25 := e_25.fr (fun j h1 h2 => fr j (by omega))
  have e_36 := e_36.fr (fun j h1 h2 => fr j (by omega))
  have e_47 := e_47.fr (fun j h1 h2 => fr j (by omega))
  have e_58 := (fr 58 (by omega)).trans e_58
  have e_59 := e_59.fr (fun j h1 h2 => fr j (by omega))
  have e_70 := e_70.fr (fun j h1 h2 => fr j (by omega))
  have e_81 := (fr 81 (by omega)).trans e_81
  have e_82 := (fr 82 (by omega)).trans e_82
  have henT : ∀ j, j < 1 → j ≠ 0 → en18 j = en j := fun j hj hj2 => (fr j (by omega)).trans (henT j hj hj2)
  refine G_aload_n hC 0 1 rfl rfl dX10_init_75 ?_
  refine G_newo hC hA (ci := 3) [.null, .null, .null, .int 0, .int 0, .int 0, .long 0, .int 0, .int 0, .int 0] inX6 tyX6 tyX6_ok q34 qiX6 qnX6 rfl (fun j hj => by rcases (show j = 0 ∨ j = 1 ∨ j = 2 ∨ j = 3 ∨ j = 4 ∨ j = 5 ∨ j = 6 ∨ j = 7 ∨ j = 8 ∨ j = 9 by omega) with rfl | rfl | rfl | rfl | rfl | rfl | rfl | rfl | rfl | rfl <;> rfl) (Nat.le_of_ble_eq_true rfl) (Nat.le_of_ble_eq_true rfl) dX10_init_76 (fun ad en19 had hen e_new hC => ?_)
  have e_0 : en19 0 = .inr (7, [.ref (ad 1), .ref (ad 12), .ref (ad 58), .ref (ad 81), .null, .null, .null, .int 0, .long 0, .long 0, .int 0, .int 0, .int 0]) := by rw [hen 0 (by omega), had 1 (by omega), had 12 (by omega), had 58 (by omega), had 81 (by omega)]; exact e_0
  have e_1 : Hall cs ad en19 1 q := e_1.grow (fun j h1 h2 => had j (by omega)) (fun j h1 h2 => hen j (by omega))
  have e_12 : en19 12 = .inr (2, [.ref (ad 13), .int 0, .int 0]) := by rw [hen 12 (by omega), had 13 (by omega)]; exact e_12
  have e_13 : en19 13 = .inl (cs 4, 4, .inr (.inr (.inr (.inr (ringF ad))))) := by rw [hen 13 (by omega), ringF_gr (fun j hj => had j (by omega))]; exact e_13
  have e_14 : Hall cs ad en19 14 q := e_14.grow (fun j h1 h2 => had j (by omega)) (fun j h1 h2 => hen j (by omega))
  have e_25 : Hall cs ad en19 25 q := e_25.grow (fun j h1 h2 => had j (by omega)) (fun j h1 h2 => hen j (by omega))
  have e_36 : Hall cs ad en19 36 q := e_36.grow (fun j h1 h2 => had j (by omega)) (fun j h1 h2 => hen j (by omega))
  have e_47 : Hall cs ad en19 47 q := e_47.grow (fun j h1 h2 => had j (by omega)) (fun j h1 h2 => hen j (by omega))
  have e_58 : en19 58 = .inl (cs 4, 2, .inr (.inr (.inr (.inr (va_up (va_up (fun _ => none) 0 (some (ad 59))) 1 (some (ad 70))))))) := by rw [hen 58 (by omega), had 59 (by omega), had 70 (by omega)]; exact e_58
  have e_59 : Hall cs ad en19 59 q := e_59.grow (fun j h1 h2 => had j (by omega)) (fun j h1 h2 => hen j (by omega))
  have e_70 : Hall cs ad en19 70 q := e_70.grow (fun j h1 h2 => had j (by omega)) (fun j h1 h2 => hen j (by omega))
  have e_81 : en19 81 = .inr (6, [.ref (ad 82), .int 0]) := by rw [hen 81 (by omega), had 82 (by omega)]; exact e_81
  have e_82 : en19 82 = .inl (cs 0, 300, .inl (fun _ => 0)) := by rw [hen 82 (by omega)]; exact e_82
  have hadT : ∀ j, j < 1 → ad j = _ := fun j hj => (had j (by omega)).trans (hadT j hj)
  have henT : ∀ j, j < 1 → j ≠ 0 → en19 j = en j := fun j hj hj2 => (hen j (by omega)).trans (henT j hj hj2)
  have e_83 : en19 83 = .inr (3, [.null, .null, .null, .int 0, .int 0, .int 0, .long 0, .int 0, .int 0, .int 0]) := e_new
  refine G_eq (lv' := [(1, .int 2), (0, .ref (ad 0))]) (st' := [.ref (ad 83), .ref (ad 0)]) (by rw [had 0 (by omega)]) (by rw [had 0 (by omega)]) (fun _ _ => rfl) ?_
  refine G_dup hC rfl dX10_init_79 ?_
  refine G_aload_n hC 0 1 rfl rfl dX10_init_80 ?_
  refine G_get hC inX10 0 (by omega) (v := .ref (ad 81)) e_0 rfl 3 (by decide) m30 rfl rfl dX10_init_81 ?_
  refine G_cA (st := [.ref (ad 83), .ref (ad 0)]) hC hA hO _ 83 (c_X6_init l e_83 hq) (cwI 1 hC.hts gX10_init_X6_init rfl rfl rfl (hC.hts _ qnX6) (hC.hts _ i36) (hC.hts _ iiX6_init) rfl (by decide +kernel) ⟨Nat.le_of_ble_eq_true rfl, Nat.le_of_ble_eq_true rfl⟩) rfl (Nat.le_of_ble_eq_true rfl) (Nat.le_of_ble_eq_true rfl) (Nat.le_of_ble_eq_true rfl) rfl dX10_init_84 (fun ad en20 hw hC => ?_)
  dsimp only at hw
  obtain ⟨had, e1, H9, e2, hen⟩ := hw
  have hen : ∀ j, j < 84 → j ≠ 83 → en20 j = _ := hen
  have e_0 : en20 0 = .inr (7, [.ref (ad 1), .ref (ad 12), .ref (ad 58), .ref (ad 81), .null, .null, .null, .int 0, .long 0, .long 0, .int 0, .int 0, .int 0]) := by rw [hen 0 (by omega) (by omega), had 1 (by omega), had 12 (by omega), had 58 (by omega), had 81 (by omega)]; exact e_0
  have e_1 : Hall cs ad en20 1 q := e_1.grow (fun j h1 h2 => had j (by omega)) (fun j h1 h2 => hen j (by omega) (by omega))
  have e_12 : en20 12 = .inr (2, [.ref (ad 13), .int 0, .int 0]) := by rw [hen 12 (by omega) (by omega), had 13 (by omega)]; exact e_12
  have e_13 : en20 13 = .inl (cs 4, 4, .inr (.inr (.inr (.inr (ringF ad))))) := by rw [hen 13 (by omega) (by omega), ringF_gr (fun j hj => had j (by omega))]; exact e_13
  have e_14 : Hall cs ad en20 14 q := e_14.grow (fun j h1 h2 => had j (by omega)) (fun j h1 h2 => hen j (by omega) (by omega))
  have e_25 : Hall cs ad en20 25 q := e_25.grow (fun j h1 h2 => had j (by omega)) (fun j h1 h2 => hen j (by omega) (by omega))
  have e_36 : Hall cs ad en20 36 q := e_36.grow (fun j h1 h2 => had j (by omega)) (fun j h1 h2 => hen j (by omega) (by omega))
  have e_47 : Hall cs ad en20 47 q := e_47.grow (fun j h1 h2 => had j (by omega)) (fun j h1 h2 => hen j (by omega) (by omega))
  have e_58 : en20 58 = .inl (cs 4, 2, .inr (.inr (.inr (.inr (va_up (va_up (fun _ => none) 0 (some (ad 59))) 1 (some (ad 70))))))) := by rw [hen 58 (by omega) (by omega), had 59 (by omega), had 70 (by omega)]; exact e_58
  have e_59 : Hall cs ad en20 59 q := e_59.grow (fun j h1 h2 => had j (by omega)) (fun j h1 h2 => hen j (by omega) (by omega))
  have e_70 : Hall cs ad en20 70 q := e_70.grow (fun j h1 h2 => had j (by omega)) (fun j h1 h2 => hen j (by omega) (by omega))
  have e_81 : en20 81 = .inr (6, [.ref (ad 82), .int 0]) := by rw [hen 81 (by omega) (by omega), had 82 (by omega)]; exact e_81
  have e_82 : en20 82 = .inl (cs 0, 300, .inl (fun _ => 0)) := by rw [hen 82 (by omega) (by omega)]; exact e_82
  have hadT : ∀ j, j < 1 → ad j = _ := fun j hj => (had j (by omega)).trans (hadT j hj)
  have henT : ∀ j, j < 1 → j ≠ 0 → en20 j = en j := fun j hj hj2 => (hen j (by omega) (by omega)).trans (henT j hj hj2)
  have e_83 : en20 83 = .inr (3, [.ref (ad 81), .ref (ad 84), .ref (ad 95), .int 0, .int 0, .int 0, .long 0, .int 0, .int 0, .int 0]) := e1
  have e_84 : Hall cs ad en20 84 q := H9
  have e_95 : en20 95 = .inl (cs 1, 5, .inl (fun _ => 0)) := e2
  refine G_eq (lv' := [(1, .int 2), (0, .ref (ad 0))]) (st' := [.ref (ad 83), .ref (ad 0)]) (by rw [had 0 (by omega)]) (by rw [had 83 (by omega), had 0 (by omega)]) (fun _ _ => rfl) ?_
  refine G_putF hC inX10 tyX10 tyX10_ok nmX10 0 (by omega) e_0 rfl 4 (by decide) m39 rfl rfl hnm rfl (ty := .object "TongueTip$Reader") rfl rfl rfl (Nat.le_of_ble_eq_true rfl) dX10_init_87 (fun en21 e_0 fr => ?_)
  have e_0 : en21 0 = .inr (7, [.ref (ad 1), .ref (ad 12), .ref (ad 58), .ref (ad 81), .ref (ad 83), .null, .null, .int 0, .long 0, .long 0, .int 0, .int 0, .int 0]) := e_0
  have e_1 := e_1.fr (fun j h1 h2 => fr j (by omega))
  have e_12 := (fr 12 (by omega)).trans e_12
  have e_13 := (fr 13 (by omega)).trans e_13
  have e_14 := e_14.fr (fun j h1 h2 => fr j (by omega))
  have e_25 := e_25.fr (fun j h1 h2 => fr j (by omega))
  have e_36 := e_36.fr (fun j h1 h2 => fr j (by omega))
  have e_47 := e_47.fr (fun j h1 h2 => fr j (by omega))
  have e_58 := (fr 58 (by omega)).trans e_58
  have e_59 := e_59.fr (fun j h1 h2 => fr j (by omega))
  have e_70 := e_70.fr (fun j h1 h2 => fr j (by omega))
  have e_81 := (fr 81 (by omega)).trans e_81
  have e_82 := (fr 82 (by omega)).trans e_82
  have e_83 := (fr 83 (by omega)).trans e_83
  have e_84 := e_84.fr (fun j h1 h2 => fr j (by omega))
  have e_95 := (fr 95 (by omega)).trans e_95
  have henT : ∀ j, j < 1 → j ≠ 0 → en21 j = en j := fun j hj hj2 => (fr j (by omega)).trans (henT j hj hj2)
  refine G_aload_n hC 0 1 rfl rfl dX10_init_90 ?_
  refine G_newo hC hA (ci := 4) [.null, .int 0, .int 0, .int 0, .int 0, .int 0, .long 0] inX7 tyX7 tyX7_ok q43 qiX7 qnX7 rfl (fun j hj => by rcases (show j = 0 ∨ j = 1 ∨ j = 2 ∨ j = 3 ∨ j = 4 ∨ j = 5 ∨ j = 6 by omega) with rfl | rfl | rfl | rfl | rfl | rfl | rfl <;> rfl) (Nat.le_of_ble_eq_true rfl) (Nat.le_of_ble_eq_true rfl) dX10_init_91 (fun ad en22 had hen e_new hC => ?_)
  have e_0 : en22 0 = .inr (7, [.ref (ad 1), .ref (ad 12), .ref (ad 58), .ref (ad 81), .ref (ad 83), .null, .null, .int 0, .long 0, .long 0, .int 0, .int 0, .int 0]) := by rw [hen 0 (by omega), had 1 (by omega), had 12 (by omega), had 58 (by omega), had 81 (by omega), had 83 (by omega)]; exact e_0
  have e_1 : Hall cs ad en22 1 q := e_1.grow (fun j h1 h2 => had j (by omega)) (fun j h1 h2 => hen j (by omega))
  have e_12 : en22 12 = .inr (2, [.ref (ad 13), .int 0, .int 0]) := by rw [hen 12 (by omega), had 13 (by omega)]; exact e_12
  have e_13 : en22 13 = .inl (cs 4, 4, .inr (.inr (.inr (.inr (ringF ad))))) := by rw [hen 13 (by omega), ringF_gr (fun j hj => had j (by omega))]; exact e_13
  have e_14 : Hall cs ad en22 14 q := e_14.grow (fun j h1 h2 => had j (by omega)) (fun j h1 h2 => hen j (by omega))
  have e_25 : Hall cs ad en22 25 q := e_25.grow (fun j h1 h2 => had j (by omega)) (fun j h1 h2 => hen j (by omega))
  have e_36 : Hall cs ad en22 36 q := e_36.grow (fun j h1 h2 => had j (by omega)) (fun j h1 h2 => hen j (by omega))
  have e_47 : Hall cs ad en22 47 q := e_47.grow (fun j h1 h2 => had j (by omega)) (fun j h1 h2 => hen j (by omega))
  have e_58 : en22 58 = .inl (cs 4, 2, .inr (.inr (.inr (.inr (va_up (va_up (fun _ => none) 0 (some (ad 59))) 1 (some (ad 70))))))) := by rw [hen 58 (by omega), had 59 (by omega), had 70 (by omega)]; exact e_58
  have e_59 : Hall cs ad en22 59 q := e_59.grow (fun j h1 h2 => had j (by omega)) (fun j h1 h2 => hen j (by omega))
  have e_70 : Hall cs ad en22 70 q := e_70.grow (fun j h1 h2 => had j (by omega)) (fun j h1 h2 => hen j (by omega))
  have e_81 : en22 81 = .inr (6, [.ref (ad 82), .int 0]) := by rw [hen 81 (by omega), had 82 (by omega)]; exact e_81
  have e_82 : en22 82 = .inl (cs 0, 300, .inl (fun _ => 0)) := by rw [hen 82 (by omega)]; exact e_82
  have e_83 : en22 83 = .inr (3, [.ref (ad 81), .ref (ad 84), .ref (ad 95), .int 0, .int 0, .int 0, .long 0, .int 0, .int 0, .int 0]) := by rw [hen 83 (by omega), had 81 (by omega), had 84 (by omega), had 95 (by omega)]; exact e_83
  have e_84 : Hall cs ad en22 84 q := e_84.grow (fun j h1 h2 => had j (by omega)) (fun j h1 h2 => hen j (by omega))
  have e_95 : en22 95 = .inl (cs 1, 5, .inl (fun _ => 0)) := by rw [hen 95 (by omega)]; exact e_95
  have hadT : ∀ j, j < 1 → ad j = _ := fun j hj => (had j (by omega)).trans (hadT j hj)
  have henT : ∀ j, j < 1 → j ≠ 0 → en22 j = en j := fun j hj hj2 => (hen j (by omega)).trans (henT j hj hj2)
  have e_96 : en22 96 = .inr (4, [.null, .int 0, .int 0, .int 0, .int 0, .int 0, .long 0]) := e_new
  refine G_eq (lv' := [(1, .int 2), (0, .ref (ad 0))]) (st' := [.ref (ad 96), .ref (ad 0)]) (by rw [had 0 (by omega)]) (by rw [had 0 (by omega)]) (fun _ _ => rfl) ?_
  refine G_dup hC rfl dX10_init_94 ?_
  refine G_cA (st := [.ref (ad 96), .ref (ad 0)]) hC hA hO _ 96 (c_X7_init l e_96 hqa) (cwI 0 hC.hts gX10_init_X7_init rfl rfl rfl (hC.hts _ qnX7) (hC.hts _ i45) (hC.hts _ iiX7_init) rfl (by decide +kernel) ⟨Nat.le_of_ble_eq_true rfl, Nat.le_of_ble_eq_true rfl⟩) rfl (Nat.le_of_ble_eq_true rfl) (Nat.le_of_ble_eq_true rfl) (Nat.le_of_ble_eq_true rfl) rfl dX10_init_95 (fun ad en23 hw hC => ?_)
  dsimp only at hw
  obtain ⟨had, e1, e2, hen⟩ := hw
  have hen : ∀ j, j < 97 → j ≠ 96 → en23 j = _ := hen
  have e_0 : en23 0 = .inr (7, [.ref (ad 1), .ref (ad 12), .ref (ad 58), .ref (ad 81), .ref (ad 83), .null, .null, .int 0, .long 0, .long 0, .int 0, .int 0, .int 0]) := by rw [hen 0 (by omega) (by omega), had 1 (by omega), had 12 (by omega), had 58 (by omega), had 81 (by omega), had 83 (by omega)]; exact e_0
  have e_1 : Hall cs ad en23 1 q := e_1.grow (fun j h1 h2 => had j (by omega)) (fun j h1 h2 => hen j (by omega) (by omega))
  have e_12 : en23 12 = .inr (2, [.ref (ad 13), .int 0, .int 0]) := by rw [hen 12 (by omega) (by omega), had 13 (by omega)]; exact e_12
  have e_13 : en23 13 = .inl (cs 4, 4, .inr (.inr (.inr (.inr (ringF ad))))) := by rw [hen 13 (by omega) (by omega), ringF_gr (fun j hj => had j (by omega))]; exact e_13
  have e_14 : Hall cs ad en23 14 q := e_14.grow (fun j h1 h2 => had j (by omega)) (fun j h1 h2 => hen j (by omega) (by omega))
  have e_25 : Hall cs ad en23 25 q := e_25.grow (fun j h1 h2 => had j (by omega)) (fun j h1 h2 => hen j (by omega) (by omega))
  have e_36 : Hall cs ad en23 36 q := e_36.grow (fun j h1 h2 => had j (by omega)) (fun j h1 h2 => hen j (by omega) (by omega))
  have e_47 : Hall cs ad en23 47 q := e_47.grow (fun j h1 h2 => had j (by omega)) (fun j h1 h2 => hen j (by omega) (by omega))
  have e_58 : en23 58 = .inl (cs 4, 2, .inr (.inr (.inr (.inr (va_up (va_up (fun _ => none) 0 (some (ad 59))) 1 (some (ad 70))))))) := by rw [hen 58 (by omega) (by omega), had 59 (by omega), had 70 (by omega)]; exact e_58
  have e_59 : Hall cs ad en23 59 q := e_59.grow (fun j h1 h2 => had j (by omega)) (fun j h1 h2 => hen j (by omega) (by omega))
  have e_70 : Hall cs ad en23 70 q := e_70.grow (fun j h1 h2 => had j (by omega)) (fun j h1 h2 => hen j (by omega) (by omega))
  have e_81 : en23 81 = .inr (6, [.ref (ad 82), .int 0]) := by rw [hen 81 (by omega) (by omega), had 82 (by omega)]; exact e_81
  have e_82 : en23 82 = .inl (cs 0, 300, .inl (fun _ => 0)) := by rw [hen 82 (by omega) (by omega)]; exact e_82
  have e_83 : en23 83 = .inr (3, [.ref (ad 81), .ref (ad 84), .ref (ad 95), .int 0, .int 0, .int 0, .long 0, .int 0, .int 0, .int 0]) := by rw [hen 83 (by omega) (by omega), had 81 (by omega), had 84 (by omega), had 95 (by omega)]; exact e_83
  have e_84 : Hall cs ad en23 84 q := e_84.grow (fun j h1 h2 => had j (by omega)) (fun j h1 h2 => hen j (by omega) (by omega))
  have e_95 : en23 95 = .inl (cs 1, 5, .inl (fun _ => 0)) := by rw [hen 95 (by omega) (by omega)]; exact e_95
  have hadT : ∀ j, j < 1 → ad j = _ := fun j hj => (had j (by omega)).trans (hadT j hj)
  have henT : ∀ j, j < 1 → j ≠ 0 → en23 j = en j := fun j hj hj2 => (hen j (by omega) (by omega)).trans (henT j hj hj2)
  have e_96 : en23 96 = .inr (4, [.ref (ad 97), .int 0, .int 0, .int 0, .int 0, .int 0, .long 0]) := e1
  have e_97 : en23 97 = .inl (cs 1, 326, .inl qa) := e2
  refine G_eq (lv' := [(1, .int 2), (0, .ref (ad 0))]) (st' := [.ref (ad 96), .ref (ad 0)]) (by rw [had 0 (by omega)]) (by rw [had 96 (by omega), had 0 (by omega)]) (fun _ _ => rfl) ?_
  refine G_putF hC inX10 tyX10 tyX10_ok nmX10 0 (by omega) e_0 rfl 5 (by decide) m46 rfl rfl hnm rfl (ty := .object "TongueTip$Rows") rfl rfl rfl (Nat.le_of_ble_eq_true rfl) dX10_init_98 (fun en24 e_0 fr => ?_)
  have e_0 : en24 0 = .inr (7, [.ref (ad 1), .ref (ad 12), .ref (ad 58), .ref (ad 81), .ref (ad 83), .ref (ad 96), .null, .int 0, .long 0, .long 0, .int 0, .int 0, .int 0]) := e_0
  have e_1 := e_1.fr (fun j h1 h2 => fr j (by omega))
  have e_12 := (fr 12 (by omega)).trans e_12
  have e_13 := (fr 13 (by omega)).trans e_13
  have e_14 := e_14.fr (fun j h1 h2 => fr j (by omega))
  have e_25 := e_25.fr (fun j h1 h2 => fr j (by omega))
  have e_36 := e_36.fr (fun j h1 h2 => fr j (by omega))
  have e_47 := e_47.fr (fun j h1 h2 => fr j (by omega))
  have e_58 := (fr 58 (by omega)).trans e_58
  have e_59 := e_59.fr (fun j h1 h2 => fr j (by omega))
  have e_70 := e_70.fr (fun j h1 h2 => fr j (by omega))
  have e_81 := (fr 81 (by omega)).trans e_81
  have e_82 := (fr 82 (by omega)).trans e_82
  have e_83 := (fr 83 (by omega)).trans e_83
  have e_84 := e_84.fr (fun j h1 h2 => fr j (by omega))
  have e_95 := (fr 95 (by omega)).trans e_95
  have e_96 := (fr 96 (by omega)).trans e_96
  have e_97 := (fr 97 (by omega)).trans e_97
  have henT : ∀ j, j < 1 → j ≠ 0 → en24 j = en j := fun j hj hj2 => (fr j (by omega)).trans (henT j hj hj2)
  refine G_aload_n hC 0 1 rfl rfl dX10_init_101 ?_
  refine G_newo hC hA (ci := 1) [.null, .int 0] inX3 tyX3 tyX3_ok q50 qiX3 qnX3 rfl (fun j hj => by rcases (show j = 0 ∨ j = 1 by omega) with rfl | rfl <;> rfl) (Nat.le_of_ble_eq_true rfl) (Nat.le_of_ble_eq_true rfl) dX10_init_102 (fun ad en25 had hen e_new hC => ?_)
  have e_0 : en25 0 = .inr (7, [.ref (ad 1), .ref (ad 12), .ref (ad 58), .ref (ad 81), .ref (ad 83), .ref (ad 96), .null, .int 0, .long 0, .long 0, .int 0, .int 0, .int 0]) := by rw [hen 0 (by omega), had 1 (by omega), had 12 (by omega), had 58 (by omega), had 81 (by omega), had 83 (by omega), had 96 (by omega)]; exact e_0
  have e_1 : Hall cs ad en25 1 q := e_1.grow (fun j h1 h2 => had j (by omega)) (fun j h1 h2 => hen j (by omega))
  have e_12 : en25 12 = .inr (2, [.ref (ad 13), .int 0, .int 0]) := by rw [hen 12 (by omega), had 13 (by omega)]; exact e_12
  have e_13 : en25 13 = .inl (cs 4, 4, .inr (.inr (.inr (.inr (ringF ad))))) := by rw [hen 13 (by omega), ringF_gr (fun j hj => had j (by omega))]; exact e_13
  have e_14 : Hall cs ad en25 14 q := e_14.grow (fun j h1 h2 => had j (by omega)) (fun j h1 h2 => hen j (by omega))
  have e_25 : Hall cs ad en25 25 q := e_25.grow (fun j h1 h2 => had j (by omega)) (fun j h1 h2 => hen j (by omega))
  have e_36 : Hall cs ad en25 36 q := e_36.grow (fun j h1 h2 => had j (by omega)) (fun j h1 h2 => hen j (by omega))
  have e_47 : Hall cs ad en25 47 q := e_47.grow (fun j h1 h2 => had j (by omega)) (fun j h1 h2 => hen j (by omega))
  have e_58 : en25 58 = .inl (cs 4, 2, .inr (.inr (.inr (.inr (va_up (va_up (fun _ => none) 0 (some (ad 59))) 1 (some (ad 70))))))) := by rw [hen 58 (by omega), had 59 (by omega), had 70 (by omega)]; exact e_58
  have e_59 : Hall cs ad en25 59 q := e_59.grow (fun j h1 h2 => had j (by omega)) (fun j h1 h2 => hen j (by omega))
  have e_70 : Hall cs ad en25 70 q := e_70.grow (fun j h1 h2 => had j (by omega)) (fun j h1 h2 => hen j (by omega))
  have e_81 : en25 81 = .inr (6, [.ref (ad 82), .int 0]) := by rw [hen 81 (by omega), had 82 (by omega)]; exact e_81
  have e_82 : en25 82 = .inl (cs 0, 300, .inl (fun _ => 0)) := by rw [hen 82 (by omega)]; exact e_82
  have e_83 : en25 83 = .inr (3, [.ref (ad 81), .ref (ad 84), .ref (ad 95), .int 0, .int 0, .int 0, .long 0, .int 0, .int 0, .int 0]) := by rw [hen 83 (by omega), had 81 (by omega), had 84 (by omega), had 95 (by omega)]; exact e_83
  have e_84 : Hall cs ad en25 84 q := e_84.grow (fun j h1 h2 => had j (by omega)) (fun j h1 h2 => hen j (by omega))
  have e_95 : en25 95 = .inl (cs 1, 5, .inl (fun _ => 0)) := by rw [hen 95 (by omega)]; exact e_95
  have e_96 : en25 96 = .inr (4, [.ref (ad 97), .int 0, .int 0, .int 0, .int 0, .int 0, .long 0]) := by rw [hen 96 (by omega), had 97 (by omega)]; exact e_96
  have e_97 : en25 97 = .inl (cs 1, 326, .inl qa) := by rw [hen 97 (by omega)]; exact e_97
  have hadT : ∀ j, j < 1 → ad j = _ := fun j hj => (had j (by omega)).trans (hadT j hj)
  have henT : ∀ j, j < 1 → j ≠ 0 → en25 j = en j := fun j hj hj2 => (hen j (by omega)).trans (henT j hj hj2)
  have e_98 : en25 98 = .inr (1, [.null, .int 0]) := e_new
  refine G_eq (lv' := [(1, .int 2), (0, .ref (ad 0))]) (st' := [.ref (ad 98), .ref (ad 0)]) (by rw [had 0 (by omega)]) (by rw [had 0 (by omega)]) (fun _ _ => rfl) ?_
  refine G_dup hC rfl dX10_init_105 ?_
  refine G_cA (st := [.ref (ad 98), .ref (ad 0)]) hC hA hO _ 98 (c_X3_init l e_98) (cwI 0 hC.hts gX10_init_X3_init rfl rfl rfl (hC.hts _ qnX3) (hC.hts _ i52) (hC.hts _ iiX3_init) rfl (by decide +kernel) ⟨Nat.le_of_ble_eq_true rfl, Nat.le_of_ble_eq_true rfl⟩) rfl (Nat.le_of_ble_eq_true rfl) (Nat.le_of_ble_eq_true rfl) (Nat.le_of_ble_eq_true rfl) rfl dX10_init_106 (fun ad en26 hw hC => ?_)
  dsimp only at hw
  obtain ⟨had, e1, e2, hen⟩ := hw
  have hen : ∀ j, j < 99 → j ≠ 98 → en26 j = _ := hen
  have e_0 : en26 0 = .inr (7, [.ref (ad 1), .ref (ad 12), .ref (ad 58), .ref (ad 81), .ref (ad 83), .ref (ad 96), .null, .int 0, .long 0, .long 0, .int 0, .int 0, .int 0]) := by rw [hen 0 (by omega) (by omega), had 1 (by omega), had 12 (by omega), had 58 (by omega), had 81 (by omega), had 83 (by omega), had 96 (by omega)]; exact e_0
  have e_1 : Hall cs ad en26 1 q := e_1.grow (fun j h1 h2 => had j (by omega)) (fun j h1 h2 => hen j (by omega) (by omega))
  have e_12 : en26 12 = .inr (2, [.ref (ad 13), .int 0, .int 0]) := by rw [hen 12 (by omega) (by omega), had 13 (by omega)]; exact e_12
  have e_13 : en26 13 = .inl (cs 4, 4, .inr (.inr (.inr (.inr (ringF ad))))) := by rw [hen 13 (by omega) (by omega), ringF_gr (fun j hj => had j (by omega))]; exact e_13
  have e_14 : Hall cs ad en26 14 q := e_14.grow (fun j h1 h2 => had j (by omega)) (fun j h1 h2 => hen j (by omega) (by omega))
  have e_25 : Hall cs ad en26 25 q := e_25.grow (fun j h1 h2 => had j (by omega)) (fun j h1 h2 => hen j (by omega) (by omega))
  have e_36 : Hall cs ad en26 36 q := e_36.grow (fun j h1 h2 => had j (by omega)) (fun j h1 h2 => hen j (by omega) (by omega))
  have e_47 : Hall cs ad en26 47 q := e_47.grow (fun j h1 h2 => had j (by omega)) (fun j h1 h2 => hen j (by omega) (by omega))
  have e_58 : en26 58 = .inl (cs 4, 2, .inr (.inr (.inr (.inr (va_up (va_up (fun _ => none) 0 (some (ad 59))) 1 (some (ad 70))))))) := by rw [hen 58 (by omega) (by omega), had 59 (by omega), had 70 (by omega)]; exact e_58
  have e_59 : Hall cs ad en26 59 q := e_59.grow (fun j h1 h2 => had j (by omega)) (fun j h1 h2 => hen j (by omega) (by omega))
  have e_70 : Hall cs ad en26 70 q := e_70.grow (fun j h1 h2 => had j (by omega)) (fun j h1 h2 => hen j (by omega) (by omega))
  have e_81 : en26 81 = .inr (6, [.ref (ad 82), .int 0]) := by rw [hen 81 (by omega) (by omega), had 82 (by omega)]; exact e_81
  have e_82 : en26 82 = .inl (cs 0, 300, .inl (fun _ => 0)) := by rw [hen 82 (by omega) (by omega)]; exact e_82
  have e_83 : en26 83 = .inr (3, [.ref (ad 81), .ref (ad 84), .ref (ad 95), .int 0, .int 0, .int 0, .long 0, .int 0, .int 0, .int 0]) := by rw [hen 83 (by omega) (by omega), had 81 (by omega), had 84 (by omega), had 95 (by omega)]; exact e_83
  have e_84 : Hall cs ad en26 84 q := e_84.grow (fun j h1 h2 => had j (by omega)) (fun j h1 h2 => hen j (by omega) (by omega))
  have e_95 : en26 95 = .inl (cs 1, 5, .inl (fun _ => 0)) := by rw [hen 95 (by omega) (by omega)]; exact e_95
  have e_96 : en26 96 = .inr (4, [.ref (ad 97), .int 0, .int 0, .int 0, .int 0, .int 0, .long 0]) := by rw [hen 96 (by omega) (by omega), had 97 (by omega)]; exact e_96
  have e_97 : en26 97 = .inl (cs 1, 326, .inl qa) := by rw [hen 97 (by omega) (by omega)]; exact e_97
  have hadT : ∀ j, j < 1 → ad j = _ := fun j hj => (had j (by omega)).trans (hadT j hj)
  have henT : ∀ j, j < 1 → j ≠ 0 → en26 j = en j := fun j hj hj2 => (hen j (by omega) (by omega)).trans (henT j hj hj2)
  have e_98 : en26 98 = .inr (1, [.ref (ad 99), .int 0]) := e1
  have e_99 : en26 99 = .inl (cs 1, 1300, .inl (fun _ => 0)) := e2
  refine G_eq (lv' := [(1, .int 2), (0, .ref (ad 0))]) (st' := [.ref (ad 98), .ref (ad 0)]) (by rw [had 0 (by omega)]) (by rw [had 98 (by omega), had 0 (by omega)]) (fun _ _ => rfl) ?_
  refine G_putF hC inX10 tyX10 tyX10_ok nmX10 0 (by omega) e_0 rfl 6 (by decide) m53 rfl rfl hnm rfl (ty := .object "TongueTip$Night") rfl rfl rfl (Nat.le_of_ble_eq_true rfl) dX10_init_109 (fun en27 e_0 fr => ?_)
  have e_0 : en27 0 = .inr (7, [.ref (ad 1), .ref (ad 12), .ref (ad 58), .ref (ad 81), .ref (ad 83), .ref (ad 96), .ref (ad 98), .int 0, .long 0, .long 0, .int 0, .int 0, .int 0]) := e_0
  have e_1 := e_1.fr (fun j h1 h2 => fr j (by omega))
  have e_12 := (fr 12 (by omega)).trans e_12
  have e_13 := (fr 13 (by omega)).trans e_13
  have e_14 := e_14.fr (fun j h1 h2 => fr j (by omega))
  have e_25 := e_25.fr (fun j h1 h2 => fr j (by omega))
  have e_36 := e_36.fr (fun j h1 h2 => fr j (by omega))
  have e_47 := e_47.fr (fun j h1 h2 => fr j (by omega))
  have e_58 := (fr 58 (by omega)).trans e_58
  have e_59 := e_59.fr (fun j h1 h2 => fr j (by omega))
  have e_70 := e_70.fr (fun j h1 h2 => fr j (by omega))
  have e_81 := (fr 81 (by omega)).trans e_81
  have e_82 := (fr 82 (by omega)).trans e_82
  have e_83 := (fr 83 (by omega)).trans e_83
  have e_84 := e_84.fr (fun j h1 h2 => fr j (by omega))
  have e_95 := (fr 95 (by omega)).trans e_95
  have e_96 := (fr 96 (by omega)).trans e_96
  have e_97 := (fr 97 (by omega)).trans e_97
  have e_98 := (fr 98 (by omega)).trans e_98
  have e_99 := (fr 99 (by omega)).trans e_99
  have henT : ∀ j, j < 1 → j ≠ 0 → en27 j = en j := fun j hj hj2 => (fr j (by omega)).trans (henT j hj hj2)
  refine G_aload_n hC 0 1 rfl rfl dX10_init_112 ?_
  refine G_lconst hC (v := 0) (by decide) dX10_init_113 ?_
  refine G_put hC inX10 tyX10 tyX10_ok nmX10 0 (by omega) e_0 rfl 8 (by decide) m57 rfl rfl (ty := .long) rfl rfl rfl (Nat.le_of_ble_eq_true rfl) dX10_init_114 (fun en28 e_0 fr => ?_)
  have e_0 : en28 0 = .inr (7, [.ref (ad 1), .ref (ad 12), .ref (ad 58), .ref (ad 81), .ref (ad 83), .ref (ad 96), .ref (ad 98), .int 0, .long 0, .long 0, .int 0, .int 0, .int 0]) := e_0
  have e_1 := e_1.fr (fun j h1 h2 => fr j (by omega))
  have e_12 := (fr 12 (by omega)).trans e_12
  have e_13 := (fr 13 (by omega)).trans e_13
  have e_14 := e_14.fr (fun j h1 h2 => fr j (by omega))
  have e_25 := e_25.fr (fun j h1 h2 => fr j (by omega))
  have e_36 := e_36.fr (fun j h1 h2 => fr j (by omega))
  have e_47 := e_47.fr (fun j h1 h2 => fr j (by omega))
  have e_58 := (fr 58 (by omega)).trans e_58
  have e_59 := e_59.fr (fun j h1 h2 => fr j (by omega))
  have e_70 := e_70.fr (fun j h1 h2 => fr j (by omega))
  have e_81 := (fr 81 (by omega)).trans e_81
  have e_82 := (fr 82 (by omega)).trans e_82
  have e_83 := (fr 83 (by omega)).trans e_83
  have e_84 := e_84.fr (fun j h1 h2 => fr j (by omega))
  have e_95 := (fr 95 (by omega)).trans e_95
  have e_96 := (fr 96 (by omega)).trans e_96
  have e_97 := (fr 97 (by omega)).trans e_97
  have e_98 := (fr 98 (by omega)).trans e_98
  have e_99 := (fr 99 (by omega)).trans e_99
  have henT : ∀ j, j < 1 → j ≠ 0 → en28 j = en j := fun j hj hj2 => (fr j (by omega)).trans (henT j hj hj2)
  refine G_aload_n hC 0 1 rfl rfl dX10_init_117 ?_
  refine G_lconst hC (v := 1) (by decide) dX10_init_118 ?_
  refine G_put hC inX10 tyX10 tyX10_ok nmX10 0 (by omega) e_0 rfl 9 (by decide) m61 rfl rfl (ty := .long) rfl rfl rfl (Nat.le_of_ble_eq_true rfl) dX10_init_119 (fun en29 e_0 fr => ?_)
  have e_0 : en29 0 = .inr (7, [.ref (ad 1), .ref (ad 12), .ref (ad 58), .ref (ad 81), .ref (ad 83), .ref (ad 96), .ref (ad 98), .int 0, .long 0, .long 1, .int 0, .int 0, .int 0]) := e_0
  have e_1 := e_1.fr (fun j h1 h2 => fr j (by omega))
  have e_12 := (fr 12 (by omega)).trans e_12
  have e_13 := (fr 13 (by omega)).trans e_13
  have e_14 := e_14.fr (fun j h1 h2 => fr j (by omega))
  have e_25 := e_25.fr (fun j h1 h2 => fr j (by omega))
  have e_36 := e_36.fr (fun j h1 h2 => fr j (by omega))
  have e_47 := e_47.fr (fun j h1 h2 => fr j (by omega))
  have e_58 := (fr 58 (by omega)).trans e_58
  have e_59 := e_59.fr (fun j h1 h2 => fr j (by omega))
  have e_70 := e_70.fr (fun j h1 h2 => fr j (by omega))
  have e_81 := (fr 81 (by omega)).trans e_81
  have e_82 := (fr 82 (by omega)).trans e_82
  have e_83 := (fr 83 (by omega)).trans e_83
  have e_84 := e_84.fr (fun j h1 h2 => fr j (by omega))
  have e_95 := (fr 95 (by omega)).trans e_95
  have e_96 := (fr 96 (by omega)).trans e_96
  have e_97 := (fr 97 (by omega)).trans e_97
  have e_98 := (fr 98 (by omega)).trans e_98
  have e_99 := (fr 99 (by omega)).trans e_99
  have henT : ∀ j, j < 1 → j ≠ 0 → en29 j = en j := fun j hj hj2 => (fr j (by omega)).trans (henT j hj hj2)
  rw [imgF_mk] at e_58
  exact Kr ad _ _ _ hC ⟨hadT, e_0, e_1, e_12, e_13, (fun i hi => by match i, hi with | 0, _ => exact e_14 | 1, _ => exact e_25 | 2, _ => exact e_36 | 3, _ => exact e_47), e_58, (fun i hi => by match i, hi with | 0, _ => exact e_59 | 1, _ => exact e_70), e_81, e_82, e_83, e_84, e_95, e_96, e_97, e_98, e_99, henT⟩ dX10_init_122
def f_X11_init   : Option ((Nat → Int32)) := Option.bind (f_X11_makeAnew (fun _ => 0) (0 : Int32)) (fun q85 => some q85)
set_option maxHeartbeats 4000000 in
set_option maxRecDepth 100000 in
theorem c_X11_init {D : va_G} {cs : Nat → ClassId} {sa : Nat → Nat} {ad : Nat → Nat} {A : Nat → Prop} (l : Launch) {en : Nat → va_E} {q : Nat → Int32} (e_100 : en 100 = .inr (8, [.null, .null, .null, .null, .int 0, .int 0, .long 0, .long 0, .null, .null, .null, .null, .int 0, .int 0, .int 0, .int 0, .long 0, .long 0, .null, .long 0])) (h : f_X11_init = some q) : Met l yX11_init wsX11_init { frames := 1, cells := 9, slots := 3081, locals := 22 } (va_Pc [.ref (ad 100)] (WdA D cs sa (101) ad A en)) (va_Qv (fun (u : (Nat → Nat) × (Nat → va_E)) => (∀ j, j < 101 → u.1 j = ad j) ∧ u.2 100 = .inr (8, [.ref (u.1 101), .ref (u.1 102), .ref (u.1 103), .ref (u.1 104), .int (0 : Int32), .int (0 : Int32), .long (0 : Int64), .long (1 : Int64), .ref (u.1 105), .ref (u.1 106), .ref (u.1 107), .ref (u.1 108), .int (0 : Int32), .int (0 : Int32), .int (0 : Int32), .int (0 : Int32), .long (0 : Int64), .long (0 : Int64), .ref (u.1 109), .long (0 : Int64)]) ∧ u.2 101 = .inl (cs 1, 960, .inl (q)) ∧ u.2 102 = .inl (cs 2, 96, .inr (.inl ((fun _ => 0)))) ∧ u.2 103 = .inl (cs 3, 2, .inl ((fun _ => 0))) ∧ u.2 104 = .inl (cs 1, 300, .inl ((fun _ => 0))) ∧ u.2 105 = .inl (cs 1, 3, .inl ((fun _ => 0))) ∧ u.2 106 = .inl (cs 1, 60, .inl ((fun _ => 0))) ∧ u.2 107 = .inl (cs 2, 60, .inr (.inl ((fun _ => 0)))) ∧ u.2 108 = .inl (cs 1, 300, .inl ((fun _ => 0))) ∧ u.2 109 = .inl (cs 1, 1300, .inl ((fun _ => 0))) ∧ (∀ j, j < 101 → j ≠ 100 → u.2 j = en j)) (fun (u : (Nat → Nat) × (Nat → va_E)) => Wd D cs sa (110) u.1 A u.2) A) 9 3081 A := by
  refine G_startA cX11_init 1 [(0, .ref (ad 100))] (by decide) rfl (Nat.le_of_ble_eq_true rfl) rfl ?_
  intro p e s m args below meth c Q hC hnm hA hO Kr
  have inX11 : ∀ w ∈ u_ws RX11 TX11 20, w ∈ wsX11_init := by decide +kernel
  have a_boolean : Cond.arrayClass .boolean ∈ wsX11_init := by decide +kernel
  have a_int : Cond.arrayClass .int ∈ wsX11_init := by decide +kernel
  have a_long : Cond.arrayClass .long ∈ wsX11_init := by decide +kernel
  have m13 : Cond.fieldLink RX11 13 "TongueTipModel" "names" "[J" ∈ wsX11_init := by decide +kernel
  have m17 : Cond.fieldLink RX11 17 "TongueTipModel" "isKept" "[Z" ∈ wsX11_init := by decide +kernel
  have m21 : Cond.fieldLink RX11 21 "TongueTipModel" "text" "[I" ∈ wsX11_init := by decide +kernel
  have m24 : Cond.fieldLink RX11 24 "TongueTipModel" "below" "J" ∈ wsX11_init := by decide +kernel
  have m28 : Cond.fieldLink RX11 28 "TongueTipModel" "refused" "[I" ∈ wsX11_init := by decide +kernel
  have m31 : Cond.fieldLink RX11 31 "TongueTipModel" "itemWord" "[I" ∈ wsX11_init := by decide +kernel
  have m34 : Cond.fieldLink RX11 34 "TongueTipModel" "itemName" "[J" ∈ wsX11_init := by decide +kernel
  have m37 : Cond.fieldLink RX11 37 "TongueTipModel" "number" "[I" ∈ wsX11_init := by decide +kernel
  have m40 : Cond.fieldLink RX11 40 "TongueTipModel" "left" "[I" ∈ wsX11_init := by decide +kernel
  have m7 : Cond.fieldLink RX11 7 "TongueTipModel" "w" "[I" ∈ wsX11_init := by decide +kernel
  have oi1 : Cond.methodLink RX11 1 Lib.objectInit ∈ wsX11_init := by decide +kernel
  have oi2 : Cond.instanceMethod Lib.objectInit ∈ wsX11_init := by decide +kernel
  have oi3 : Cond.code Lib.objectInit ⟨#[0xb1]⟩ 1 none ∈ wsX11_init := by decide +kernel
  have hadT : ∀ j, j < 101 → ad j = ad j := fun _ _ => rfl
  have henT : ∀ j, j < 101 → j ≠ 100 → en j = en j := fun _ _ _ => rfl
  refine G_aload_n hC 0 0 rfl rfl dX11_init_0 ?_
  refine G_objInit hC oi1 oi2 oi3 (Nat.le_of_ble_eq_true rfl) (Nat.le_of_ble_eq_true rfl) dX11_init_1 ?_
  refine G_aload_n hC 0 0 rfl rfl dX11_init_4 ?_
  refine G_sipush hC (v := 960) (by decide) dX11_init_5 ?_
  refine G_newa hC hA (atype := .int) 1 (960, .inl (fun _ => 0)) a_int rfl rfl (fun cA => by first | rfl | exact vp_newI | exact vp_newL | (simp [vp_cell]; rfl)) (by decide) (by decide) (by decide) (Nat.le_of_ble_eq_true rfl) (Nat.le_of_ble_eq_true rfl) dX11_init_8 (fun ad en2 had hen e_new hC => ?_)
  have e_100 : en2 100 = .inr (8, [.null, .null, .null, .null, .int 0, .int 0, .long 0, .long 0, .null, .null, .null, .null, .int 0, .int 0, .int 0, .int 0, .long 0, .long 0, .null, .long 0]) := by rw [hen 100 (by omega)]; exact e_100
  have hadT : ∀ j, j < 101 → ad j = _ := fun j hj => (had j (by omega)).trans (hadT j hj)
  have henT : ∀ j, j < 101 → j ≠ 100 → en2 j = en j := fun j hj hj2 => (hen j (by omega)).trans (henT j hj hj2)
  have e_101 : en2 101 = .inl (cs 1, 960, .inl (fun _ => 0)) := e_new
  refine G_eq (lv' := [(0, .ref (ad 100))]) (st' := [.ref (ad 101), .ref (ad 100)]) (by rw [had 100 (by omega)]) (by rw [had 100 (by omega)]) (fun _ _ => rfl) ?_
  refine G_putF hC inX11 tyX11 tyX11_ok nmX11 100 (by omega) e_100 rfl 0 (by decide) m7 rfl rfl hnm rfl (ty := .array .int) rfl rfl rfl (Nat.le_of_ble_eq_true rfl) dX11_init_10 (fun en3 e_100 fr => ?_)
  have e_100 : en3 100 = .inr (8, [.ref (ad 101), .null, .null, .null, .int 0, .int 0, .long 0, .long 0, .null, .null, .null, .null, .int 0, .int 0, .int 0, .int 0, .long 0, .long 0, .null, .long 0]) := e_100
  have e_101 := (fr 101 (by omega)).trans e_101
  have henT : ∀ j, j < 101 → j ≠ 100 → en3 j = en j := fun j hj hj2 => (fr j (by omega)).trans (henT j hj hj2)
  refine G_aload_n hC 0 0 rfl rfl dX11_init_13 ?_
  refine G_bipush hC (v := 96) (by decide) dX11_init_14 ?_
  refine G_newa hC hA (atype := .long) 2 (96, .inr (.inl (fun _ => 0))) a_long rfl rfl (fun cA => by first | rfl | exact vp_newI | exact vp_newL | (simp [vp_cell]; rfl)) (by decide) (by decide) (by decide) (Nat.le_of_ble_eq_true rfl) (Nat.le_of_ble_eq_true rfl) dX11_init_16 (fun ad en4 had hen e_new hC => ?_)
  have e_100 : en4 100 = .inr (8, [.ref (ad 101), .null, .null, .null, .int 0, .int 0, .long 0, .long 0, .null, .null, .null, .null, .int 0, .int 0, .int 0, .int 0, .long 0, .long 0, .null, .long 0]) := by rw [hen 100 (by omega), had 101 (by omega)]; exact e_100
  have e_101 : en4 101 = .inl (cs 1, 960, .inl (fun _ => 0)) := by rw [hen 101 (by omega)]; exact e_101
  have hadT : ∀ j, j < 101 → ad j = _ := fun j hj => (had j (by omega)).trans (hadT j hj)
  have henT : ∀ j, j < 101 → j ≠ 100 → en4 j = en j := fun j hj hj2 => (hen j (by omega)).trans (henT j hj hj2)
  have e_102 : en4 102 = .inl (cs 2, 96, .inr (.inl (fun _ => 0))) := e_new
  refine G_eq (lv' := [(0, .ref (ad 100))]) (st' := [.ref (ad 102), .ref (ad 100)]) (by rw [had 100 (by omega)]) (by rw [had 100 (by omega)]) (fun _ _ => rfl) ?_
  refine G_putF hC inX11 tyX11 tyX11_ok nmX11 100 (by omega) e_100 rfl 1 (by decide) m13 rfl rfl hnm rfl (ty := .array .long) rfl rfl rfl (Nat.le_of_ble_eq_true rfl) dX11_init_18 (fun en5 e_100 fr => ?_)
  have e_100 : en5 100 = .inr (8, [.ref (ad 101), .ref (ad 102), .null, .null, .int 0, .int 0, .long 0, .long 0, .null, .null, .null, .null, .int 0, .int 0, .int 0, .int 0, .long 0, .long 0, .null, .long 0]) := e_100
  have e_101 := (fr 101 (by omega)).trans e_101
  have e_102 := (fr 102 (by omega)).trans e_102
  have henT : ∀ j, j < 101 → j ≠ 100 → en5 j = en j := fun j hj hj2 => (fr j (by omega)).trans (henT j hj hj2)
  refine G_aload_n hC 0 0 rfl rfl dX11_init_21 ?_
  refine G_iconst hC (v := 2) (by decide) dX11_init_22 ?_
  refine G_newa hC hA (atype := .boolean) 3 (2, .inl (fun _ => 0)) a_boolean rfl rfl (fun cA => by first | rfl | exact vp_newI | exact vp_newL | (simp [vp_cell]; rfl)) (by decide) (by decide) (by decide) (Nat.le_of_ble_eq_true rfl) (Nat.le_of_ble_eq_true rfl) dX11_init_23 (fun ad en6 had hen e_new hC => ?_)
  have e_100 : en6 100 = .inr (8, [.ref (ad 101), .ref (ad 102), .null, .null, .int 0, .int 0, .long 0, .long 0, .null, .null, .null, .null, .int 0, .int 0, .int 0, .int 0, .long 0, .long 0, .null, .long 0]) := by rw [hen 100 (by omega), had 101 (by omega), had 102 (by omega)]; exact e_100
  have e_101 : en6 101 = .inl (cs 1, 960, .inl (fun _ => 0)) := by rw [hen 101 (by omega)]; exact e_101
  have e_102 : en6 102 = .inl (cs 2, 96, .inr (.inl (fun _ => 0))) := by rw [hen 102 (by omega)]; exact e_102
  have hadT : ∀ j, j < 101 → ad j = _ := fun j hj => (had j (by omega)).trans (hadT j hj)
  have henT : ∀ j, j < 101 → j ≠ 100 → en6 j = en j := fun j hj hj2 => (hen j (by omega)).trans (henT j hj hj2)
  have e_103 : en6 103 = .inl (cs 3, 2, .inl (fun _ => 0)) := e_new
  refine G_eq (lv' := [(0, .ref (ad 100))]) (st' := [.ref (ad 103), .ref (ad 100)]) (by rw [had 100 (by omega)]) (by rw [had 100 (by omega)]) (fun _ _ => rfl) ?_
  refine G_putF hC inX11 tyX11 tyX11_ok nmX11 100 (by omega) e_100 rfl 2 (by decide) m17 rfl rfl hnm rfl (ty := .array .boolean) rfl rfl rfl (Nat.le_of_ble_eq_true rfl) dX11_init_25 (fun en7 e_100 fr => ?_)
  have e_100 : en7 100 = .inr (8, [.ref (ad 101), .ref (ad 102), .ref (ad 103), .null, .int 0, .int 0, .long 0, .long 0, .null, .null, .null, .null, .int 0, .int 0, .int 0, .int 0, .long 0, .long 0, .null, .long 0]) := e_100
  have e_101 := (fr 101 (by omega)).trans e_101
  have e_102 := (fr 102 (by omega)).trans e_102
  have e_103 := (fr 103 (by omega)).trans e_103
  have henT : ∀ j, j < 101 → j ≠ 100 → en7 j = en j := fun j hj hj2 => (fr j (by omega)).trans (henT j hj hj2)
  refine G_aload_n hC 0 0 rfl rfl dX11_init_28 ?_
  refine G_sipush hC (v := 300) (by decide) dX11_init_29 ?_
  refine G_newa hC hA (atype := .int) 1 (300, .inl (fun _ => 0)) a_int rfl rfl (fun cA => by first | rfl | exact vp_newI | exact vp_newL | (simp [vp_cell]; rfl)) (by decide) (by decide) (by decide) (Nat.le_of_ble_eq_true rfl) (Nat.le_of_ble_eq_true rfl) dX11_init_32 (fun ad en8 had hen e_new hC => ?_)
  have e_100 : en8 100 = .inr (8, [.ref (ad 101), .ref (ad 102), .ref (ad 103), .null, .int 0, .int 0, .long 0, .long 0, .null, .null, .null, .null, .int 0, .int 0, .int 0, .int 0, .long 0, .long 0, .null, .long 0]) := by rw [hen 100 (by omega), had 101 (by omega), had 102 (by omega), had 103 (by omega)]; exact e_100
  have e_101 : en8 101 = .inl (cs 1, 960, .inl (fun _ => 0)) := by rw [hen 101 (by omega)]; exact e_101
  have e_102 : en8 102 = .inl (cs 2, 96, .inr (.inl (fun _ => 0))) := by rw [hen 102 (by omega)]; exact e_102
  have e_103 : en8 103 = .inl (cs 3, 2, .inl (fun _ => 0)) := by rw [hen 103 (by omega)]; exact e_103
  have hadT : ∀ j, j < 101 → ad j = _ := fun j hj => (had j (by omega)).trans (hadT j hj)
  have henT : ∀ j, j < 101 → j ≠ 100 → en8 j = en j := fun j hj hj2 => (hen j (by omega)).trans (henT j hj hj2)
  have e_104 : en8 104 = .inl (cs 1, 300, .inl (fun _ => 0)) := e_new
  refine G_eq (lv' := [(0, .ref (ad 100))]) (st' := [.ref (ad 104), .ref (ad 100)]) (by rw [had 100 (by omega)]) (by rw [had 100 (by omega)]) (fun _ _ => rfl) ?_
  refine G_putF hC inX11 tyX11 tyX11_ok nmX11 100 (by omega) e_100 rfl 3 (by decide) m21 rfl rfl hnm rfl (ty := .array .int) rfl rfl rfl (Nat.le_of_ble_eq_true rfl) dX11_init_34 (fun en9 e_100 fr => ?_)
  have e_100 : en9 100 = .inr (8, [.ref (ad 101), .ref (ad 102), .ref (ad 103), .ref (ad 104), .int 0, .int 0, .long 0, .long 0, .null, .null, .null, .null, .int 0, .int 0, .int 0, .int 0, .long 0, .long 0, .null, .long 0]) := e_100
  have e_101 := (fr 101 (by omega)).trans e_101
  have e_102 := (fr 102 (by omega)).trans e_102
  have e_103 := (fr 103 (by omega)).trans e_103
  have e_104 := (fr 104 (by omega)).trans e_104
  have henT : ∀ j, j < 101 → j ≠ 100 → en9 j = en j := fun j hj hj2 => (fr j (by omega)).trans (henT j hj hj2)
  refine G_aload_n hC 0 0 rfl rfl dX11_init_37 ?_
  refine G_lconst hC (v := 1) (by decide) dX11_init_38 ?_
  refine G_put hC inX11 tyX11 tyX11_ok nmX11 100 (by omega) e_100 rfl 7 (by decide) m24 rfl rfl (ty := .long) rfl rfl rfl (Nat.le_of_ble_eq_true rfl) dX11_init_39 (fun en10 e_100 fr => ?_)
  have e_100 : en10 100 = .inr (8, [.ref (ad 101), .ref (ad 102), .ref (ad 103), .ref (ad 104), .int 0, .int 0, .long 0, .long 1, .null, .null, .null, .null, .int 0, .int 0, .int 0, .int 0, .long 0, .long 0, .null, .long 0]) := e_100
  have e_101 := (fr 101 (by omega)).trans e_101
  have e_102 := (fr 102 (by omega)).trans e_102
  have e_103 := (fr 103 (by omega)).trans e_103
  have e_104 := (fr 104 (by omega)).trans e_104
  have henT : ∀ j, j < 101 → j ≠ 100 → en10 j = en j := fun j hj hj2 => (fr j (by omega)).trans (henT j hj hj2)
  refine G_aload_n hC 0 0 rfl rfl dX11_init_42 ?_
  refine G_iconst hC (v := 3) (by decide) dX11_init_43 ?_
  refine G_newa hC hA (atype := .int) 1 (3, .inl (fun _ => 0)) a_int rfl rfl (fun cA => by first | rfl | exact vp_newI | exact vp_newL | (simp [vp_cell]; rfl)) (by decide) (by decide) (by decide) (Nat.le_of_ble_eq_true rfl) (Nat.le_of_ble_eq_true rfl) dX11_init_44 (fun ad en11 had hen e_new hC => ?_)
  have e_100 : en11 100 = .inr (8, [.ref (ad 101), .ref (ad 102), .ref (ad 103), .ref (ad 104), .int 0, .int 0, .long 0, .long 1, .null, .null, .null, .null, .int 0, .int 0, .int 0, .int 0, .long 0, .long 0, .null, .long 0]) := by rw [hen 100 (by omega), had 101 (by omega), had 102 (by omega), had 103 (by omega), had 104 (by omega)]; exact e_100
  have e_101 : en11 101 = .inl (cs 1, 960, .inl (fun _ => 0)) := by rw [hen 101 (by omega)]; exact e_101
  have e_102 : en11 102 = .inl (cs 2, 96, .inr (.inl (fun _ => 0))) := by rw [hen 102 (by omega)]; exact e_102
  have e_103 : en11 103 = .inl (cs 3, 2, .inl (fun _ => 0)) := by rw [hen 103 (by omega)]; exact e_103
  have e_104 : en11 104 = .inl (cs 1, 300, .inl (fun _ => 0)) := by rw [hen 104 (by omega)]; exact e_104
  have hadT : ∀ j, j < 101 → ad j = _ := fun j hj => (had j (by omega)).trans (hadT j hj)
  have henT : ∀ j, j < 101 → j ≠ 100 → en11 j = en j := fun j hj hj2 => (hen j (by omega)).trans (henT j hj hj2)
  have e_105 : en11 105 = .inl (cs 1, 3, .inl (fun _ => 0)) := e_new
  refine G_eq (lv' := [(0, .ref (ad 100))]) (st' := [.ref (ad 105), .ref (ad 100)]) (by rw [had 100 (by omega)]) (by rw [had 100 (by omega)]) (fun _ _ => rfl) ?_
  refine G_putF hC inX11 tyX11 tyX11_ok nmX11 100 (by omega) e_100 rfl 8 (by decide) m28 rfl rfl hnm rfl (ty := .array .int) rfl rfl rfl (Nat.le_of_ble_eq_true rfl) dX11_init_46 (fun en12 e_100 fr => ?_)
  have e_100 : en12 100 = .inr (8, [.ref (ad 101), .ref (ad 102), .ref (ad 103), .ref (ad 104), .int 0, .int 0, .long 0, .long 1, .ref (ad 105), .null, .null, .null, .int 0, .int 0, .int 0, .int 0, .long 0, .long 0, .null, .long 0]) := e_100
  have e_101 := (fr 101 (by omega)).trans e_101
  have e_102 := (fr 102 (by omega)).trans e_102
  have e_103 := (fr 103 (by omega)).trans e_103
  have e_104 := (fr 104 (by omega)).trans e_104
  have e_105 := (fr 105 (by omega)).trans e_105
  have henT : ∀ j, j < 101 → j ≠ 100 → en12 j = en j := fun j hj hj2 => (fr j (by omega)).trans (henT j hj hj2)
  refine G_aload_n hC 0 0 rfl rfl dX11_init_49 ?_
  refine G_bipush hC (v := 60) (by decide) dX11_init_50 ?_
  refine G_newa hC hA (atype := .int) 1 (60, .inl (fun _ => 0)) a_int rfl rfl (fun cA => by first | rfl | exact vp_newI | exact vp_newL | (simp [vp_cell]; rfl)) (by decide) (by decide) (by decide) (Nat.le_of_ble_eq_true rfl) (Nat.le_of_ble_eq_true rfl) dX11_init_52 (fun ad en13 had hen e_new hC => ?_)
  have e_100 : en13 100 = .inr (8, [.ref (ad 101), .ref (ad 102), .ref (ad 103), .ref (ad 104), .int 0, .int 0, .long 0, .long 1, .ref (ad 105), .null, .null, .null, .int 0, .int 0, .int 0, .int 0, .long 0, .long 0, .null, .long 0]) := by rw [hen 100 (by omega), had 101 (by omega), had 102 (by omega), had 103 (by omega), had 104 (by omega), had 105 (by omega)]; exact e_100
  have e_101 : en13 101 = .inl (cs 1, 960, .inl (fun _ => 0)) := by rw [hen 101 (by omega)]; exact e_101
  have e_102 : en13 102 = .inl (cs 2, 96, .inr (.inl (fun _ => 0))) := by rw [hen 102 (by omega)]; exact e_102
  have e_103 : en13 103 = .inl (cs 3, 2, .inl (fun _ => 0)) := by rw [hen 103 (by omega)]; exact e_103
  have e_104 : en13 104 = .inl (cs 1, 300, .inl (fun _ => 0)) := by rw [hen 104 (by omega)]; exact e_104
  have e_105 : en13 105 = .inl (cs 1, 3, .inl (fun _ => 0)) := by rw [hen 105 (by omega)]; exact e_105
  have hadT : ∀ j, j < 101 → ad j = _ := fun j hj => (had j (by omega)).trans (hadT j hj)
  have henT : ∀ j, j < 101 → j ≠ 100 → en13 j = en j := fun j hj hj2 => (hen j (by omega)).trans (henT j hj hj2)
  have e_106 : en13 106 = .inl (cs 1, 60, .inl (fun _ => 0)) := e_new
  refine G_eq (lv' := [(0, .ref (ad 100))]) (st' := [.ref (ad 106), .ref (ad 100)]) (by rw [had 100 (by omega)]) (by rw [had 100 (by omega)]) (fun _ _ => rfl) ?_
  refine G_putF hC inX11 tyX11 tyX11_ok nmX11 100 (by omega) e_100 rfl 9 (by decide) m31 rfl rfl hnm rfl (ty := .array .int) rfl rfl rfl (Nat.le_of_ble_eq_true rfl) dX11_init_54 (fun en14 e_100 fr => ?_)
  have e_100 : en14 100 = .inr (8, [.ref (ad 101), .ref (ad 102), .ref (ad 103), .ref (ad 104), .int 0, .int 0, .long 0, .long 1, .ref (ad 105), .ref (ad 106), .null, .null, .int 0, .int 0, .int 0, .int 0, .long 0, .long 0, .null, .long 0]) := e_100
  have e_101 := (fr 101 (by omega)).trans e_101
  have e_102 := (fr 102 (by omega)).trans e_102
  have e_103 := (fr 103 (by omega)).trans e_103
  have e_104 := (fr 104 (by omega)).trans e_104
  have e_105 := (fr 105 (by omega)).trans e_105
  have e_106 := (fr 106 (by omega)).trans e_106
  have henT : ∀ j, j < 101 → j ≠ 100 → en14 j = en j := fun j hj hj2 => (fr j (by omega)).trans (henT j hj hj2)
  refine G_aload_n hC 0 0 rfl rfl dX11_init_57 ?_
  refine G_bipush hC (v := 60) (by decide) dX11_init_58 ?_
  refine G_newa hC hA (atype := .long) 2 (60, .inr (.inl (fun _ => 0))) a_long rfl rfl (fun cA => by first | rfl | exact vp_newI | exact vp_newL | (simp [vp_cell]; rfl)) (by decide) (by decide) (by decide) (Nat.le_of_ble_eq_true rfl) (Nat.le_of_ble_eq_true rfl) dX11_init_60 (fun ad en15 had hen e_new hC => ?_)
  have e_100 : en15 100 = .inr (8, [.ref (ad 101), .ref (ad 102), .ref (ad 103), .ref (ad 104), .int 0, .int 0, .long 0, .long 1, .ref (ad 105), .ref (ad 106), .null, .null, .int 0, .int 0, .int 0, .int 0, .long 0, .long 0, .null, .long 0]) := by rw [hen 100 (by omega), had 101 (by omega), had 102 (by omega), had 103 (by omega), had 104 (by omega), had 105 (by omega), had 106 (by omega)]; exact e_100
  have e_101 : en15 101 = .inl (cs 1, 960, .inl (fun _ => 0)) := by rw [hen 101 (by omega)]; exact e_101
  have e_102 : en15 102 = .inl (cs 2, 96, .inr (.inl (fun _ => 0))) := by rw [hen 102 (by omega)]; exact e_102
  have e_103 : en15 103 = .inl (cs 3, 2, .inl (fun _ => 0)) := by rw [hen 103 (by omega)]; exact e_103
  have e_104 : en15 104 = .inl (cs 1, 300, .inl (fun _ => 0)) := by rw [hen 104 (by omega)]; exact e_104
  have e_105 : en15 105 = .inl (cs 1, 3, .inl (fun _ => 0)) := by rw [hen 105 (by omega)]; exact e_105
  have e_106 : en15 106 = .inl (cs 1, 60, .inl (fun _ => 0)) := by rw [hen 106 (by omega)]; exact e_106
  have hadT : ∀ j, j < 101 → ad j = _ := fun j hj => (had j (by omega)).trans (hadT j hj)
  have henT : ∀ j, j < 101 → j ≠ 100 → en15 j = en j := fun j hj hj2 => (hen j (by omega)).trans (henT j hj hj2)
  have e_107 : en15 107 = .inl (cs 2, 60, .inr (.inl (fun _ => 0))) := e_new
  refine G_eq (lv' := [(0, .ref (ad 100))]) (st' := [.ref (ad 107), .ref (ad 100)]) (by rw [had 100 (by omega)]) (by rw [had 100 (by omega)]) (fun _ _ => rfl) ?_
  refine G_putF hC inX11 tyX11 tyX11_ok nmX11 100 (by omega) e_100 rfl 10 (by decide) m34 rfl rfl hnm rfl (ty := .array .long) rfl rfl rfl (Nat.le_of_ble_eq_true rfl) dX11_init_62 (fun en16 e_100 fr => ?_)
  have e_100 : en16 100 = .inr (8, [.ref (ad 101), .ref (ad 102), .ref (ad 103), .ref (ad 104), .int 0, .int 0, .long 0, .long 1, .ref (ad 105), .ref (ad 106), .ref (ad 107), .null, .int 0, .int 0, .int 0, .int 0, .long 0, .long 0, .null, .long 0]) := e_100
  have e_101 := (fr 101 (by omega)).trans e_101
  have e_102 := (fr 102 (by omega)).trans e_102
  have e_103 := (fr 103 (by omega)).trans e_103
  have e_104 := (fr 104 (by omega)).trans e_104
  have e_105 := (fr 105 (by omega)).trans e_105
  have e_106 := (fr 106 (by omega)).trans e_106
  have e_107 := (fr 107 (by omega)).trans e_107
  have henT : ∀ j, j < 101 → j ≠ 100 → en16 j = en j := fun j hj hj2 => (fr j (by omega)).trans (henT j hj hj2)
  refine G_aload_n hC 0 0 rfl rfl dX11_init_65 ?_
  refine G_sipush hC (v := 300) (by decide) dX11_init_66 ?_
  refine G_newa hC hA (atype := .int) 1 (300, .inl (fun _ => 0)) a_int rfl rfl (fun cA => by first | rfl | exact vp_newI | exact vp_newL | (simp [vp_cell]; rfl)) (by decide) (by decide) (by decide) (Nat.le_of_ble_eq_true rfl) (Nat.le_of_ble_eq_true rfl) dX11_init_69 (fun ad en17 had hen e_new hC => ?_)
  have e_100 : en17 100 = .inr (8, [.ref (ad 101), .ref (ad 102), .ref (ad 103), .ref (ad 104), .int 0, .int 0, .long 0, .long 1, .ref (ad 105), .ref (ad 106), .ref (ad 107), .null, .int 0, .int 0, .int 0, .int 0, .long 0, .long 0, .null, .long 0]) := by rw [hen 100 (by omega), had 101 (by omega), had 102 (by omega), had 103 (by omega), had 104 (by omega), had 105 (by omega), had 106 (by omega), had 107 (by omega)]; exact e_100
  have e_101 : en17 101 = .inl (cs 1, 960, .inl (fun _ => 0)) := by rw [hen 101 (by omega)]; exact e_101
  have e_102 : en17 102 = .inl (cs 2, 96, .inr (.inl (fun _ => 0))) := by rw [hen 102 (by omega)]; exact e_102
  have e_103 : en17 103 = .inl (cs 3, 2, .inl (fun _ => 0)) := by rw [hen 103 (by omega)]; exact e_103
  have e_104 : en17 104 = .inl (cs 1, 300, .inl (fun _ => 0)) := by rw [hen 104 (by omega)]; exact e_104
  have e_105 : en17 105 = .inl (cs 1, 3, .inl (fun _ => 0)) := by rw [hen 105 (by omega)]; exact e_105
  have e_106 : en17 106 = .inl (cs 1, 60, .inl (fun _ => 0)) := by rw [hen 106 (by omega)]; exact e_106
  have e_107 : en17 107 = .inl (cs 2, 60, .inr (.inl (fun _ => 0))) := by rw [hen 107 (by omega)]; exact e_107
  have hadT : ∀ j, j < 101 → ad j = _ := fun j hj => (had j (by omega)).trans (hadT j hj)
  have henT : ∀ j, j < 101 → j ≠ 100 → en17 j = en j := fun j hj hj2 => (hen j (by omega)).trans (henT j hj hj2)
  have e_108 : en17 108 = .inl (cs 1, 300, .inl (fun _ => 0)) := e_new
  refine G_eq (lv' := [(0, .ref (ad 100))]) (st' := [.ref (ad 108), .ref (ad 100)]) (by rw [had 100 (by omega)]) (by rw [had 100 (by omega)]) (fun _ _ => rfl) ?_
  refine G_putF hC inX11 tyX11 tyX11_ok nmX11 100 (by omega) e_100 rfl 11 (by decide) m37 rfl rfl hnm rfl (ty := .array .int) rfl rfl rfl (Nat.le_of_ble_eq_true rfl) dX11_init_71 (fun en18 e_100 fr => ?_)
  have e_100 : en18 100 = .inr (8, [.ref (ad 101), .ref (ad 102), .ref (ad 103), .ref (ad 104), .int 0, .int 0, .long 0, .long 1, .ref (ad 105), .ref (ad 106), .ref (ad 107), .ref (ad 108), .int 0, .int 0, .int 0, .int 0, .long 0, .long 0, .null, .long 0]) := e_100
  have e_101 := (fr 101 (by omega)).trans e_101
  have e_102 := (fr 102 (by omega)).trans e_102
  have e_103 := (fr 103 (by omega)).trans e_103
  have e_104 := (fr 104 (by omega)).trans e_104
  have e_105 := (fr 105 (by omega)).trans e_105
  have e_106 := (fr 106 (by omega)).trans e_106
  have e_107 := (fr 107 (by omega)).trans e_107
  have e_108 := (fr 108 (by omega)).trans e_108
  have henT : ∀ j, j < 101 → j ≠ 100 → en18 j = en j := fun j hj hj2 => (fr j (by omega)).trans (henT j hj hj2)
  refine G_aload_n hC 0 0 rfl rfl dX11_init_74 ?_
  refine G_sipush hC (v := 1300) (by decide) dX11_init_75 ?_
  refine G_newa hC hA (atype := .int) 1 (1300, .inl (fun _ => 0)) a_int rfl rfl (fun cA => by first | rfl | exact vp_newI | exact vp_newL | (simp [vp_cell]; rfl)) (by decide) (by decide) (by decide) (Nat.le_of_ble_eq_true rfl) (Nat.le_of_ble_eq_true rfl) dX11_init_78 (fun ad en19 had hen e_new hC => ?_)
  have e_100 : en19 100 = .inr (8, [.ref (ad 101), .ref (ad 102), .ref (ad 103), .ref (ad 104), .int 0, .int 0, .long 0, .long 1, .ref (ad 105), .ref (ad 106), .ref (ad 107), .ref (ad 108), .int 0, .int 0, .int 0, .int 0, .long 0, .long 0, .null, .long 0]) := by rw [hen 100 (by omega), had 101 (by omega), had 102 (by omega), had 103 (by omega), had 104 (by omega), had 105 (by omega), had 106 (by omega), had 107 (by omega), had 108 (by omega)]; exact e_100
  have e_101 : en19 101 = .inl (cs 1, 960, .inl (fun _ => 0)) := by rw [hen 101 (by omega)]; exact e_101
  have e_102 : en19 102 = .inl (cs 2, 96, .inr (.inl (fun _ => 0))) := by rw [hen 102 (by omega)]; exact e_102
  have e_103 : en19 103 = .inl (cs 3, 2, .inl (fun _ => 0)) := by rw [hen 103 (by omega)]; exact e_103
  have e_104 : en19 104 = .inl (cs 1, 300, .inl (fun _ => 0)) := by rw [hen 104 (by omega)]; exact e_104
  have e_105 : en19 105 = .inl (cs 1, 3, .inl (fun _ => 0)) := by rw [hen 105 (by omega)]; exact e_105
  have e_106 : en19 106 = .inl (cs 1, 60, .inl (fun _ => 0)) := by rw [hen 106 (by omega)]; exact e_106
  have e_107 : en19 107 = .inl (cs 2, 60, .inr (.inl (fun _ => 0))) := by rw [hen 107 (by omega)]; exact e_107
  have e_108 : en19 108 = .inl (cs 1, 300, .inl (fun _ => 0)) := by rw [hen 108 (by omega)]; exact e_108
  have hadT : ∀ j, j < 101 → ad j = _ := fun j hj => (had j (by omega)).trans (hadT j hj)
  have henT : ∀ j, j < 101 → j ≠ 100 → en19 j = en j := fun j hj hj2 => (hen j (by omega)).trans (henT j hj hj2)
  have e_109 : en19 109 = .inl (cs 1, 1300, .inl (fun _ => 0)) := e_new
  refine G_eq (lv' := [(0, .ref (ad 100))]) (st' := [.ref (ad 109), .ref (ad 100)]) (by rw [had 100 (by omega)]) (by rw [had 100 (by omega)]) (fun _ _ => rfl) ?_
  refine G_putF hC inX11 tyX11 tyX11_ok nmX11 100 (by omega) e_100 rfl 18 (by decide) m40 rfl rfl hnm rfl (ty := .array .int) rfl rfl rfl (Nat.le_of_ble_eq_true rfl) dX11_init_80 (fun en20 e_100 fr => ?_)
  have e_100 : en20 100 = .inr (8, [.ref (ad 101), .ref (ad 102), .ref (ad 103), .ref (ad 104), .int 0, .int 0, .long 0, .long 1, .ref (ad 105), .ref (ad 106), .ref (ad 107), .ref (ad 108), .int 0, .int 0, .int 0, .int 0, .long 0, .long 0, .ref (ad 109), .long 0]) := e_100
  have e_101 := (fr 101 (by omega)).trans e_101
  have e_102 := (fr 102 (by omega)).trans e_102
  have e_103 := (fr 103 (by omega)).trans e_103
  have e_104 := (fr 104 (by omega)).trans e_104
  have e_105 := (fr 105 (by omega)).trans e_105
  have e_106 := (fr 106 (by omega)).trans e_106
  have e_107 := (fr 107 (by omega)).trans e_107
  have e_108 := (fr 108 (by omega)).trans e_108
  have e_109 := (fr 109 (by omega)).trans e_109
  have henT : ∀ j, j < 101 → j ≠ 100 → en20 j = en j := fun j hj hj2 => (fr j (by omega)).trans (henT j hj hj2)
  have e_model : en20 100 = .inr (8, [.ref (ad 101), .ref (ad 102), .ref (ad 103), .ref (ad 104), .int (0 : Int32), .int (0 : Int32), .long (0 : Int64), .long (1 : Int64), .ref (ad 105), .ref (ad 106), .ref (ad 107), .ref (ad 108), .int (0 : Int32), .int (0 : Int32), .int (0 : Int32), .int (0 : Int32), .long (0 : Int64), .long (0 : Int64), .ref (ad 109), .long (0 : Int64)]) := e_100
  have e_mwarr : en20 101 = .inl (cs 1, 960, .inl (fun _ => 0)) := e_101
  have e_mnamesarr : en20 102 = .inl (cs 2, 96, .inr (.inl (fun _ => 0))) := e_102
  have e_mkeptarr : en20 103 = .inl (cs 3, 2, .inl (fun _ => 0)) := e_103
  have e_mtextarr : en20 104 = .inl (cs 1, 300, .inl (fun _ => 0)) := e_104
  have e_mrefusedarr : en20 105 = .inl (cs 1, 3, .inl (fun _ => 0)) := e_105
  have e_miwordarr : en20 106 = .inl (cs 1, 60, .inl (fun _ => 0)) := e_106
  have e_minamearr : en20 107 = .inl (cs 2, 60, .inr (.inl (fun _ => 0))) := e_107
  have e_mnumberarr : en20 108 = .inl (cs 1, 300, .inl (fun _ => 0)) := e_108
  have e_mleftarr : en20 109 = .inl (cs 1, 1300, .inl (fun _ => 0)) := e_109
  unfold f_X11_init at h
  refine G_aload_n hC 0 0 rfl rfl dX11_init_83 ?_
  refine G_iconst hC (v := 0) (by decide) dX11_init_84 ?_
  obtain ⟨q85, h85, h⟩ := bnd h
  refine G_cVv (st := []) hC _ 100 (by omega) (c_X11_makeAnew  l (by omega) e_model e_mwarr h85) (cwV 1 hC.hts gX11_init_X11_makeAnew rfl rfl rfl (by decide +kernel) ⟨Nat.le_of_ble_eq_true rfl, Nat.le_of_ble_eq_true rfl⟩) e_model rfl rfl (Nat.le_of_ble_eq_true rfl) (Nat.le_of_ble_eq_true rfl) (Nat.le_of_ble_eq_true rfl) rfl dX11_init_85 (fun en2 hw => ?_)
  obtain ⟨e_mwarr, fr⟩ := hw
  have e_model := (fr 100 (by omega)).trans e_model
  have e_mnamesarr := (fr 102 (by omega)).trans e_mnamesarr
  have e_mkeptarr := (fr 103 (by omega)).trans e_mkeptarr
  have e_mtextarr := (fr 104 (by omega)).trans e_mtextarr
  have e_mrefusedarr := (fr 105 (by omega)).trans e_mrefusedarr
  have e_miwordarr := (fr 106 (by omega)).trans e_miwordarr
  have e_minamearr := (fr 107 (by omega)).trans e_minamearr
  have e_mnumberarr := (fr 108 (by omega)).trans e_mnumberarr
  have e_mleftarr := (fr 109 (by omega)).trans e_mleftarr
  have henT : ∀ j, j < 101 → j ≠ 100 → en2 j = en j := fun j hj hj2 => (fr j (by omega)).trans (henT j hj hj2)
  have h := Option.some.inj h
  subst h
  exact Kr ad _ _ _ hC ⟨hadT, e_model, e_mwarr, e_mnamesarr, e_mkeptarr, e_mtextarr, e_mrefusedarr, e_miwordarr, e_minamearr, e_mnumberarr, e_mleftarr, henT⟩ dX11_init_88
