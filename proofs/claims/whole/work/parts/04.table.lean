def f_X8_size (rows : Int32)  : Option (Int32) := some rows
set_option maxHeartbeats 4000000 in
set_option maxRecDepth 100000 in
theorem c_X8_size {D : va_G} {cs : Nat → ClassId} {sa : Nat → Nat} {n : Nat} {ad : Nat → Nat} {A : Nat → Prop} (l : Launch) {en : Nat → va_E} {pp : Nat} {wd : Int32} {mo : Int32} {rows : Int32}   {q : Int32} (hpn : pp + 1 < n) (e_T : en pp = .inr (5, [.int wd, .int mo, .ref (ad (pp + 1)), .int rows])) (h : f_X8_size rows = some q) : Met l yX8_size wsX8_size { frames := 0, cells := 0, slots := 0, locals := 0 } (va_Pc [.ref (ad pp)] (Wd D cs sa n ad A en)) (va_Qi (fun r u => q = r ∧ en = u) (Wd D cs sa n ad A) A) 0 0 A := by
  refine G_startI cX8_size 1 [(0, .ref (ad pp))] (by decide) rfl (Nat.le_of_ble_eq_true rfl) rfl ?_
  intro p e s m args below meth c Q hC hnm Kr
  have inX8 : ∀ w ∈ u_ws RX8 TX8 4, w ∈ wsX8_size := by decide +kernel
  have m28 : Cond.fieldLink RX8 28 "TongueTip$Table" "rows" "I" ∈ wsX8_size := by decide +kernel
  unfold f_X8_size at h
  refine G_aload_n hC 0 0 rfl rfl dX8_size_0 ?_
  refine G_get hC inX8 pp (by omega) (v := .int rows) e_T rfl 3 (by decide) m28 rfl rfl dX8_size_1 ?_
  have h := Option.some.inj h
  subst h
  exact Kr _ _ _ _ (nar_i _) ⟨rfl, rfl⟩ dX8_size_4
def f_X8_isFull (mo : Int32) (rows : Int32)  : Option (Int32) := if rows < mo then (some (0 : Int32)) else (some (1 : Int32))
set_option maxHeartbeats 4000000 in
set_option maxRecDepth 100000 in
theorem c_X8_isFull {D : va_G} {cs : Nat → ClassId} {sa : Nat → Nat} {n : Nat} {ad : Nat → Nat} {A : Nat → Prop} (l : Launch) {en : Nat → va_E} {pp : Nat} {wd : Int32} {mo : Int32} {rows : Int32}   {q : Int32} (hpn : pp + 1 < n) (e_T : en pp = .inr (5, [.int wd, .int mo, .ref (ad (pp + 1)), .int rows])) (h : f_X8_isFull mo rows = some q) : Met l yX8_isFull wsX8_isFull { frames := 0, cells := 0, slots := 0, locals := 0 } (va_Pc [.ref (ad pp)] (Wd D cs sa n ad A en)) (va_Qi (fun r u => q = r ∧ en = u) (Wd D cs sa n ad A) A) 0 0 A := by
  refine G_startI cX8_isFull 1 [(0, .ref (ad pp))] (by decide) rfl (Nat.le_of_ble_eq_true rfl) rfl ?_
  intro p e s m args below meth c Q hC hnm Kr
  have inX8 : ∀ w ∈ u_ws RX8 TX8 4, w ∈ wsX8_isFull := by decide +kernel
  have m28 : Cond.fieldLink RX8 28 "TongueTip$Table" "rows" "I" ∈ wsX8_isFull := by decide +kernel
  have m9 : Cond.fieldLink RX8 9 "TongueTip$Table" "most" "I" ∈ wsX8_isFull := by decide +kernel
  unfold f_X8_isFull at h
  refine G_aload_n hC 0 0 rfl rfl dX8_isFull_0 ?_
  refine G_get hC inX8 pp (by omega) (v := .int rows) e_T rfl 3 (by decide) m28 rfl rfl dX8_isFull_1 ?_
  refine G_aload_n hC 0 0 rfl rfl dX8_isFull_4 ?_
  refine G_get hC inX8 pp (by omega) (v := .int mo) e_T rfl 1 (by decide) m9 rfl rfl dX8_isFull_5 ?_
  refine G_icmp_lt hC 15 dX8_isFull_8 (by decide) (fun c8 => ?_) (fun c8 => ?_)
  · have h := ifp c8 h
    refine G_iconst hC (v := 0) (by decide) dX8_isFull_15 ?_
    have h := Option.some.inj h
    subst h
    exact Kr _ _ _ _ (by decide) ⟨rfl, rfl⟩ dX8_isFull_16
  have h := ifn c8 h
  refine G_iconst hC (v := 1) (by decide) dX8_isFull_11 ?_
  refine G_goto hC 16 dX8_isFull_12 (by decide) ?_
  have h := Option.some.inj h
  subst h
  exact Kr _ _ _ _ (by decide) ⟨rfl, rfl⟩ dX8_isFull_16
def f_X8_holds (rows : Int32) (x1 : Int32) : Option (Int32) := if x1 < 0 then (some (0 : Int32)) else (if rows ≤ x1 then (some (0 : Int32)) else (some (1 : Int32)))
set_option maxHeartbeats 4000000 in
set_option maxRecDepth 100000 in
theorem c_X8_holds {D : va_G} {cs : Nat → ClassId} {sa : Nat → Nat} {n : Nat} {ad : Nat → Nat} {A : Nat → Prop} (l : Launch) {en : Nat → va_E} {pp : Nat} {wd : Int32} {mo : Int32} {rows : Int32} {x1 : Int32}  {q : Int32} (hpn : pp + 1 < n) (e_T : en pp = .inr (5, [.int wd, .int mo, .ref (ad (pp + 1)), .int rows])) (h : f_X8_holds rows x1 = some q) : Met l yX8_holds wsX8_holds { frames := 0, cells := 0, slots := 0, locals := 0 } (va_Pc [.ref (ad pp), .int x1] (Wd D cs sa n ad A en)) (va_Qi (fun r u => q = r ∧ en = u) (Wd D cs sa n ad A) A) 0 0 A := by
  refine G_startI cX8_holds 2 [(0, .ref (ad pp)), (1, .int x1)] (by decide) rfl (Nat.le_of_ble_eq_true rfl) rfl ?_
  intro p e s m args below meth c Q hC hnm Kr
  have inX8 : ∀ w ∈ u_ws RX8 TX8 4, w ∈ wsX8_holds := by decide +kernel
  have m28 : Cond.fieldLink RX8 28 "TongueTip$Table" "rows" "I" ∈ wsX8_holds := by decide +kernel
  unfold f_X8_holds at h
  refine G_iload_n hC 1 1 rfl rfl dX8_holds_0 ?_
  refine G_if_lt hC 16 dX8_holds_1 (by decide) (fun c1 => ?_) (fun c1 => ?_)
  · have h := ifp c1 h
    refine G_iconst hC (v := 0) (by decide) dX8_holds_16 ?_
    have h := Option.some.inj h
    subst h
    exact Kr _ _ _ _ (by decide) ⟨rfl, rfl⟩ dX8_holds_17
  have h := ifn c1 h
  refine G_iload_n hC 1 1 rfl rfl dX8_holds_4 ?_
  refine G_aload_n hC 0 0 rfl rfl dX8_holds_5 ?_
  refine G_get hC inX8 pp (by omega) (v := .int rows) e_T rfl 3 (by decide) m28 rfl rfl dX8_holds_6 ?_
  refine G_icmp_ge hC 16 dX8_holds_9 (by decide) (fun c9 => ?_) (fun c9 => ?_)
  · have h := ifp c9 h
    refine G_iconst hC (v := 0) (by decide) dX8_holds_16 ?_
    have h := Option.some.inj h
    subst h
    exact Kr _ _ _ _ (by decide) ⟨rfl, rfl⟩ dX8_holds_17
  have h := ifn c9 h
  refine G_iconst hC (v := 1) (by decide) dX8_holds_12 ?_
  refine G_goto hC 17 dX8_holds_13 (by decide) ?_
  have h := Option.some.inj h
  subst h
  exact Kr _ _ _ _ (by decide) ⟨rfl, rfl⟩ dX8_holds_17
def f_X8_addRow (mo : Int32) (rows : Int32)  : Option (Int32 × Int32) := Option.bind (f_X8_isFull mo rows) (fun q1 => if q1 = 0 then (some ((rows + (1 : Int32)) - (1 : Int32), rows + (1 : Int32))) else (some ((-4 : Int32), rows)))
set_option maxHeartbeats 4000000 in
set_option maxRecDepth 100000 in
theorem c_X8_addRow {D : va_G} {cs : Nat → ClassId} {sa : Nat → Nat} {n : Nat} {ad : Nat → Nat} {A : Nat → Prop} (l : Launch) {en : Nat → va_E} {pp : Nat} {wd : Int32} {mo : Int32} {rows : Int32}   {q : Int32 × Int32} (hpn : pp + 1 < n) (e_T : en pp = .inr (5, [.int wd, .int mo, .ref (ad (pp + 1)), .int rows])) (h : f_X8_addRow mo rows = some q) : Met l yX8_addRow wsX8_addRow { frames := 1, cells := 0, slots := 0, locals := 20 } (va_Pc [.ref (ad pp)] (Wd D cs sa n ad A en)) (va_Qi (fun r u => q.1 = r ∧ u pp = .inr (5, [.int wd, .int mo, .ref (ad (pp + 1)), .int q.2]) ∧ (∀ j, (j < pp ∨ pp + 1 ≤ j) → u j = en j)) (Wd D cs sa n ad A) A) 0 0 A := by
  refine G_startI cX8_addRow 1 [(0, .ref (ad pp))] (by decide) rfl (Nat.le_of_ble_eq_true rfl) rfl ?_
  intro p e s m args below meth c Q hC hnm Kr
  have inX8 : ∀ w ∈ u_ws RX8 TX8 4, w ∈ wsX8_addRow := by decide +kernel
  have m28 : Cond.fieldLink RX8 28 "TongueTip$Table" "rows" "I" ∈ wsX8_addRow := by decide +kernel
  unfold f_X8_addRow at h
  have hfr : ∀ j, (j < pp ∨ pp + 1 ≤ j) → en j = en j := fun _ _ => rfl
  refine G_aload_n hC 0 0 rfl rfl dX8_addRow_0 ?_
  obtain ⟨q1, h1, h⟩ := bnd h
  refine G_cVi (st := []) hC _ pp (by omega) (c_X8_isFull  l (by omega) e_T h1) (cwV 0 hC.hts gX8_addRow_X8_isFull rfl rfl rfl (by decide +kernel) ⟨Nat.le_of_ble_eq_true rfl, Nat.le_of_ble_eq_true rfl⟩) e_T rfl rfl (Nat.le_of_ble_eq_true rfl) (Nat.zero_le _) (Nat.zero_le _) rfl dX8_addRow_1 (fun r1 enx hw => ?_)
  obtain ⟨rfl, rfl⟩ := hw
  refine G_if_eq hC 10 dX8_addRow_4 (by decide) (fun c4 => ?_) (fun c4 => ?_)
  · have h := ifp c4 h
    refine G_aload_n hC 0 0 rfl rfl dX8_addRow_10 ?_
    refine G_dup hC rfl dX8_addRow_11 ?_
    refine G_get hC inX8 pp (by omega) (v := .int rows) e_T rfl 3 (by decide) m28 rfl rfl dX8_addRow_12 ?_
    refine G_iconst hC (v := 1) (by decide) dX8_addRow_15 ?_
    refine G_iadd hC dX8_addRow_16 ?_
    refine G_put hC inX8 tyX8 tyX8_ok nmX8 pp (by omega) e_T rfl 3 (by decide) m28 rfl rfl (ty := .int) rfl rfl rfl (Nat.le_of_ble_eq_true rfl) dX8_addRow_17 (fun en2 e_T fr => ?_)
    have e_T : en2 pp = .inr (5, [.int wd, .int mo, .ref (ad (pp + 1)), .int (rows + (1 : Int32))]) := e_T
    have hfr : ∀ j, (j < pp ∨ pp + 1 ≤ j) → en2 j = en j := fun j o0 => (fr j (by omega)).trans (hfr j o0)
    refine G_aload_n hC 0 0 rfl rfl dX8_addRow_20 ?_
    refine G_get hC inX8 pp (by omega) (v := .int (rows + (1 : Int32))) e_T rfl 3 (by decide) m28 rfl rfl dX8_addRow_21 ?_
    refine G_iconst hC (v := 1) (by decide) dX8_addRow_24 ?_
    refine G_isub hC dX8_addRow_25 ?_
    have h := Option.some.inj h
    subst h
    exact Kr _ _ _ _ (nar_i _) ⟨rfl, e_T, hfr⟩ dX8_addRow_26
  have h := ifn c4 h
  refine G_bipush hC (v := (-4)) (by decide) dX8_addRow_7 ?_
  have h := Option.some.inj h
  subst h
  exact Kr _ _ _ _ (nar_i _) ⟨rfl, e_T, hfr⟩ dX8_addRow_9
def f_X8_forgetAll (rows : Int32)  : Option (Int32) := some (0 : Int32)
set_option maxHeartbeats 4000000 in
set_option maxRecDepth 100000 in
theorem c_X8_forgetAll {D : va_G} {cs : Nat → ClassId} {sa : Nat → Nat} {n : Nat} {ad : Nat → Nat} {A : Nat → Prop} (l : Launch) {en : Nat → va_E} {pp : Nat} {wd : Int32} {mo : Int32} {rows : Int32}   {q : Int32} (hpn : pp + 1 < n) (e_T : en pp = .inr (5, [.int wd, .int mo, .ref (ad (pp + 1)), .int rows])) (h : f_X8_forgetAll rows = some q) : Met l yX8_forgetAll wsX8_forgetAll { frames := 0, cells := 0, slots := 0, locals := 0 } (va_Pc [.ref (ad pp)] (Wd D cs sa n ad A en)) (va_Qv (fun u => u pp = .inr (5, [.int wd, .int mo, .ref (ad (pp + 1)), .int q]) ∧ (∀ j, (j < pp ∨ pp + 1 ≤ j) → u j = en j)) (Wd D cs sa n ad A) A) 0 0 A := by
  refine G_startV cX8_forgetAll 1 [(0, .ref (ad pp))] (by decide) rfl (Nat.le_of_ble_eq_true rfl) rfl ?_
  intro p e s m args below meth c Q hC hnm Kr
  have inX8 : ∀ w ∈ u_ws RX8 TX8 4, w ∈ wsX8_forgetAll := by decide +kernel
  have m28 : Cond.fieldLink RX8 28 "TongueTip$Table" "rows" "I" ∈ wsX8_forgetAll := by decide +kernel
  unfold f_X8_forgetAll at h
  have hfr : ∀ j, (j < pp ∨ pp + 1 ≤ j) → en j = en j := fun _ _ => rfl
  refine G_aload_n hC 0 0 rfl rfl dX8_forgetAll_0 ?_
  refine G_iconst hC (v := 0) (by decide) dX8_forgetAll_1 ?_
  refine G_put hC inX8 tyX8 tyX8_ok nmX8 pp (by omega) e_T rfl 3 (by decide) m28 rfl rfl (ty := .int) rfl rfl rfl (Nat.le_of_ble_eq_true rfl) dX8_forgetAll_2 (fun en2 e_T fr => ?_)
  have e_T : en2 pp = .inr (5, [.int wd, .int mo, .ref (ad (pp + 1)), .int (0 : Int32)]) := e_T
  have hfr : ∀ j, (j < pp ∨ pp + 1 ≤ j) → en2 j = en j := fun j o0 => (fr j (by omega)).trans (hfr j o0)
  have h := Option.some.inj h
  subst h
  exact Kr _ _ _ ⟨e_T, hfr⟩ dX8_forgetAll_5
def f_X8_get (wd : Int32) (NN : Nat) (cells : Nat → Int64) (x1 : Int32) (x2 : Int32) : Option (Int64) := if (x1 * wd) + x2 < 0 then (some (0 : Int64)) else (if Int32.ofNat NN ≤ (x1 * wd) + x2 then (some (0 : Int64)) else (if (x1 * wd) + x2 < 0 ∨ NN ≤ ((x1 * wd) + x2).toNatClampNeg then none else (some (cells ((x1 * wd) + x2).toNatClampNeg))))
set_option maxHeartbeats 4000000 in
set_option maxRecDepth 100000 in
theorem c_X8_get {D : va_G} {cs : Nat → ClassId} {sa : Nat → Nat} {n : Nat} {ad : Nat → Nat} {A : Nat → Prop} (l : Launch) {en : Nat → va_E} {pp : Nat} {wd : Int32} {mo : Int32} {NN : Nat} {rows : Int32} {cells : Nat → Int64} {x1 : Int32} {x2 : Int32}  {q : Int64} (hpn : pp + 1 < n) (e_T : en pp = .inr (5, [.int wd, .int mo, .ref (ad (pp + 1)), .int rows])) (e_Tc : en (pp + 1) = .inl (cs 2, NN, .inr (.inl (cells)))) (h : f_X8_get wd NN cells x1 x2 = some q) : Met l yX8_get wsX8_get { frames := 0, cells := 0, slots := 0, locals := 0 } (va_Pc [.ref (ad pp), .int x1, .int x2] (Wd D cs sa n ad A en)) (va_Ql (fun r u => q = r ∧ en = u) (Wd D cs sa n ad A) A) 0 0 A := by
  refine G_startL cX8_get 4 [(0, .ref (ad pp)), (1, .int x1), (2, .int x2)] (by decide) rfl (Nat.le_of_ble_eq_true rfl) rfl ?_
  intro p e s m args below meth c Q hC hnm Kr
  have inX8 : ∀ w ∈ u_ws RX8 TX8 4, w ∈ wsX8_get := by decide +kernel
  have m15 : Cond.fieldLink RX8 15 "TongueTip$Table" "width" "I" ∈ wsX8_get := by decide +kernel
  have m24 : Cond.fieldLink RX8 24 "TongueTip$Table" "cells" "[J" ∈ wsX8_get := by decide +kernel
  unfold f_X8_get at h
  refine G_iload_n hC 1 1 rfl rfl dX8_get_0 ?_
  refine G_aload_n hC 0 0 rfl rfl dX8_get_1 ?_
  refine G_get hC inX8 pp (by omega) (v := .int wd) e_T rfl 0 (by decide) m15 rfl rfl dX8_get_2 ?_
  refine G_imul hC dX8_get_5 ?_
  refine G_iload_n hC 2 2 rfl rfl dX8_get_6 ?_
  refine G_iadd hC dX8_get_7 ?_
  refine G_istore_n hC 3 [(3, .int ((x1 * wd) + x2)), (0, .ref (ad pp)), (1, .int x1), (2, .int x2)] rfl (by decide) rfl dX8_get_8 ?_
  refine G_iload_n hC 3 0 rfl rfl dX8_get_9 ?_
  refine G_if_lt hC 31 dX8_get_10 (by decide) (fun c10 => ?_) (fun c10 => ?_)
  · have h := ifp c10 h
    refine G_lconst hC (v := 0) (by decide) dX8_get_31 ?_
    have h := Option.some.inj h
    subst h
    exact Kr _ _ _ _ ⟨rfl, rfl⟩ dX8_get_32
  have h := ifn c10 h
  refine G_iload_n hC 3 0 rfl rfl dX8_get_13 ?_
  refine G_aload_n hC 0 1 rfl rfl dX8_get_14 ?_
  refine G_get hC inX8 pp (by omega) (v := .ref (ad (pp + 1))) e_T rfl 2 (by decide) m24 rfl rfl dX8_get_15 ?_
  refine G_alen hC 2 (pp + 1) (by omega) e_Tc rfl rfl dX8_get_18 ?_
  refine G_icmp_ge hC 31 dX8_get_19 (by decide) (fun c19 => ?_) (fun c19 => ?_)
  · have h := ifp c19 h
    refine G_lconst hC (v := 0) (by decide) dX8_get_31 ?_
    have h := Option.some.inj h
    subst h
    exact Kr _ _ _ _ ⟨rfl, rfl⟩ dX8_get_32
  have h := ifn c19 h
  refine G_aload_n hC 0 1 rfl rfl dX8_get_22 ?_
  refine G_get hC inX8 pp (by omega) (v := .ref (ad (pp + 1))) e_T rfl 2 (by decide) m24 rfl rfl dX8_get_23 ?_
  refine G_iload_n hC 3 0 rfl rfl dX8_get_26 ?_
  obtain ⟨g27, h⟩ := asn h
  refine G_lald hC (pp + 1) (by omega) e_Tc g27 dX8_get_27 ?_
  refine G_goto hC 32 dX8_get_28 (by decide) ?_
  have h := Option.some.inj h
  subst h
  exact Kr _ _ _ _ ⟨rfl, rfl⟩ dX8_get_32
def f_X8_number (wd : Int32) (NN : Nat) (cells : Nat → Int64) (x1 : Int32) (x2 : Int32) : Option (Int32) := if (x1 * wd) + x2 < 0 then (some (0 : Int32)) else (if Int32.ofNat NN ≤ (x1 * wd) + x2 then (some (0 : Int32)) else (if (x1 * wd) + x2 < 0 ∨ NN ≤ ((x1 * wd) + x2).toNatClampNeg then none else (some ((cells ((x1 * wd) + x2).toNatClampNeg).toInt32))))
set_option maxHeartbeats 4000000 in
set_option maxRecDepth 100000 in
theorem c_X8_number {D : va_G} {cs : Nat → ClassId} {sa : Nat → Nat} {n : Nat} {ad : Nat → Nat} {A : Nat → Prop} (l : Launch) {en : Nat → va_E} {pp : Nat} {wd : Int32} {mo : Int32} {NN : Nat} {rows : Int32} {cells : Nat → Int64} {x1 : Int32} {x2 : Int32}  {q : Int32} (hpn : pp + 1 < n) (e_T : en pp = .inr (5, [.int wd, .int mo, .ref (ad (pp + 1)), .int rows])) (e_Tc : en (pp + 1) = .inl (cs 2, NN, .inr (.inl (cells)))) (h : f_X8_number wd NN cells x1 x2 = some q) : Met l yX8_number wsX8_number { frames := 0, cells := 0, slots := 0, locals := 0 } (va_Pc [.ref (ad pp), .int x1, .int x2] (Wd D cs sa n ad A en)) (va_Qi (fun r u => q = r ∧ en = u) (Wd D cs sa n ad A) A) 0 0 A := by
  refine G_startI cX8_number 4 [(0, .ref (ad pp)), (1, .int x1), (2, .int x2)] (by decide) rfl (Nat.le_of_ble_eq_true rfl) rfl ?_
  intro p e s m args below meth c Q hC hnm Kr
  have inX8 : ∀ w ∈ u_ws RX8 TX8 4, w ∈ wsX8_number := by decide +kernel
  have m15 : Cond.fieldLink RX8 15 "TongueTip$Table" "width" "I" ∈ wsX8_number := by decide +kernel
  have m24 : Cond.fieldLink RX8 24 "TongueTip$Table" "cells" "[J" ∈ wsX8_number := by decide +kernel
  unfold f_X8_number at h
  refine G_iload_n hC 1 1 rfl rfl dX8_number_0 ?_
  refine G_aload_n hC 0 0 rfl rfl dX8_number_1 ?_
  refine G_get hC inX8 pp (by omega) (v := .int wd) e_T rfl 0 (by decide) m15 rfl rfl dX8_number_2 ?_
  refine G_imul hC dX8_number_5 ?_
  refine G_iload_n hC 2 2 rfl rfl dX8_number_6 ?_
  refine G_iadd hC dX8_number_7 ?_
  refine G_istore_n hC 3 [(3, .int ((x1 * wd) + x2)), (0, .ref (ad pp)), (1, .int x1), (2, .int x2)] rfl (by decide) rfl dX8_number_8 ?_
  refine G_iload_n hC 3 0 rfl rfl dX8_number_9 ?_
  refine G_if_lt hC 32 dX8_number_10 (by decide) (fun c10 => ?_) (fun c10 => ?_)
  · have h := ifp c10 h
    refine G_iconst hC (v := 0) (by decide) dX8_number_32 ?_
    have h := Option.some.inj h
    subst h
    exact Kr _ _ _ _ (nar_i _) ⟨rfl, rfl⟩ dX8_number_33
  have h := ifn c10 h
  refine G_iload_n hC 3 0 rfl rfl dX8_number_13 ?_
  refine G_aload_n hC 0 1 rfl rfl dX8_number_14 ?_
  refine G_get hC inX8 pp (by omega) (v := .ref (ad (pp + 1))) e_T rfl 2 (by decide) m24 rfl rfl dX8_number_15 ?_
  refine G_alen hC 2 (pp + 1) (by omega) e_Tc rfl rfl dX8_number_18 ?_
  refine G_icmp_ge hC 32 dX8_number_19 (by decide) (fun c19 => ?_) (fun c19 => ?_)
  · have h := ifp c19 h
    refine G_iconst hC (v := 0) (by decide) dX8_number_32 ?_
    have h := Option.some.inj h
    subst h
    exact Kr _ _ _ _ (nar_i _) ⟨rfl, rfl⟩ dX8_number_33
  have h := ifn c19 h
  refine G_aload_n hC 0 1 rfl rfl dX8_number_22 ?_
  refine G_get hC inX8 pp (by omega) (v := .ref (ad (pp + 1))) e_T rfl 2 (by decide) m24 rfl rfl dX8_number_23 ?_
  refine G_iload_n hC 3 0 rfl rfl dX8_number_26 ?_
  obtain ⟨g27, h⟩ := asn h
  refine G_lald hC (pp + 1) (by omega) e_Tc g27 dX8_number_27 ?_
  refine G_l2i hC dX8_number_28 ?_
  refine G_goto hC 33 dX8_number_29 (by decide) ?_
  have h := Option.some.inj h
  subst h
  exact Kr _ _ _ _ (nar_i _) ⟨rfl, rfl⟩ dX8_number_33
def f_X8_set (wd : Int32) (NN : Nat) (cells : Nat → Int64) (x1 : Int32) (x2 : Int32) (x3 : Int64) : Option ((Nat → Int64)) := if (x1 * wd) + x2 < 0 then (some cells) else (if Int32.ofNat NN ≤ (x1 * wd) + x2 then (some cells) else (if (x1 * wd) + x2 < 0 ∨ NN ≤ ((x1 * wd) + x2).toNatClampNeg then none else (some (vp_updL cells ((x1 * wd) + x2).toNatClampNeg x3))))
set_option maxHeartbeats 4000000 in
set_option maxRecDepth 100000 in
theorem c_X8_set {D : va_G} {cs : Nat → ClassId} {sa : Nat → Nat} {n : Nat} {ad : Nat → Nat} {A : Nat → Prop} (l : Launch) {en : Nat → va_E} {pp : Nat} {wd : Int32} {mo : Int32} {NN : Nat} {rows : Int32} {cells : Nat → Int64} {x1 : Int32} {x2 : Int32} {x3 : Int64}  {q : (Nat → Int64)} (hpn : pp + 1 < n) (e_T : en pp = .inr (5, [.int wd, .int mo, .ref (ad (pp + 1)), .int rows])) (e_Tc : en (pp + 1) = .inl (cs 2, NN, .inr (.inl (cells)))) (h : f_X8_set wd NN cells x1 x2 x3 = some q) : Met l yX8_set wsX8_set { frames := 0, cells := 0, slots := 0, locals := 0 } (va_Pc [.ref (ad pp), .int x1, .int x2, .long x3] (Wd D cs sa n ad A en)) (va_Qv (fun u => u (pp + 1) = .inl (cs 2, NN, .inr (.inl (q))) ∧ (∀ j, (j < (pp + 1) ∨ (pp + 1) + 1 ≤ j) → u j = en j)) (Wd D cs sa n ad A) A) 0 0 A := by
  refine G_startV cX8_set 6 [(0, .ref (ad pp)), (1, .int x1), (2, .int x2), (3, .long x3)] (by decide) rfl (Nat.le_of_ble_eq_true rfl) rfl ?_
  intro p e s m args below meth c Q hC hnm Kr
  have inX8 : ∀ w ∈ u_ws RX8 TX8 4, w ∈ wsX8_set := by decide +kernel
  have m15 : Cond.fieldLink RX8 15 "TongueTip$Table" "width" "I" ∈ wsX8_set := by decide +kernel
  have m24 : Cond.fieldLink RX8 24 "TongueTip$Table" "cells" "[J" ∈ wsX8_set := by decide +kernel
  unfold f_X8_set at h
  have hfr : ∀ j, (j < (pp + 1) ∨ (pp + 1) + 1 ≤ j) → en j = en j := fun _ _ => rfl
  refine G_iload_n hC 1 1 rfl rfl dX8_set_0 ?_
  refine G_aload_n hC 0 0 rfl rfl dX8_set_1 ?_
  refine G_get hC inX8 pp (by omega) (v := .int wd) e_T rfl 0 (by decide) m15 rfl rfl dX8_set_2 ?_
  refine G_imul hC dX8_set_5 ?_
  refine G_iload_n hC 2 2 rfl rfl dX8_set_6 ?_
  refine G_iadd hC dX8_set_7 ?_
  refine G_istore hC 5 [(5, .int ((x1 * wd) + x2)), (0, .ref (ad pp)), (1, .int x1), (2, .int x2), (3, .long x3)] (by decide) rfl dX8_set_8 ?_
  refine G_iload hC 5 0 rfl dX8_set_10 ?_
  refine G_if_lt hC 33 dX8_set_12 (by decide) (fun c12 => ?_) (fun c12 => ?_)
  · have h := ifp c12 h
    have h := Option.some.inj h
    subst h
    exact Kr _ _ _ ⟨e_Tc, hfr⟩ dX8_set_33
  have h := ifn c12 h
  refine G_iload hC 5 0 rfl dX8_set_15 ?_
  refine G_aload_n hC 0 1 rfl rfl dX8_set_17 ?_
  refine G_get hC inX8 pp (by omega) (v := .ref (ad (pp + 1))) e_T rfl 2 (by decide) m24 rfl rfl dX8_set_18 ?_
  refine G_alen hC 2 (pp + 1) (by omega) e_Tc rfl rfl dX8_set_21 ?_
  refine G_icmp_ge hC 33 dX8_set_22 (by decide) (fun c22 => ?_) (fun c22 => ?_)
  · have h := ifp c22 h
    have h := Option.some.inj h
    subst h
    exact Kr _ _ _ ⟨e_Tc, hfr⟩ dX8_set_33
  have h := ifn c22 h
  refine G_aload_n hC 0 1 rfl rfl dX8_set_25 ?_
  refine G_get hC inX8 pp (by omega) (v := .ref (ad (pp + 1))) e_T rfl 2 (by decide) m24 rfl rfl dX8_set_26 ?_
  refine G_iload hC 5 0 rfl dX8_set_29 ?_
  refine G_lload_n hC 3 4 rfl rfl dX8_set_31 ?_
  obtain ⟨g32, h⟩ := asn h
  refine G_last hC (pp + 1) (by omega) e_Tc g32 dX8_set_32 (fun en2 e_Tc fr => ?_)
  have e_Tc : en2 (pp + 1) = .inl (cs 2, NN, .inr (.inl (vp_updL cells ((x1 * wd) + x2).toNatClampNeg x3))) := e_Tc
  have e_T := (fr pp (by omega)).trans e_T
  have hfr : ∀ j, (j < (pp + 1) ∨ (pp + 1) + 1 ≤ j) → en2 j = en j := fun j o0 => (fr j (by omega)).trans (hfr j o0)
  have h := Option.some.inj h
  subst h
  exact Kr _ _ _ ⟨e_Tc, hfr⟩ dX8_set_33
def f_X8_mixedInto_L2 (wd : Int32) (NN : Nat) (rows : Int32) (cells : Nat → Int64)  : Nat → Int64 → Int32 → Option (Int64)
  | 0, _, _ => none
  | fu + 1, x1, x3 => if rows * wd ≤ x3 then (some x1) else (if Int32.ofNat NN ≤ x3 then (some x1) else (if x3 < 0 ∨ NN ≤ x3.toNatClampNeg then none else (f_X8_mixedInto_L2 wd NN rows cells fu (((31 : Int64) * x1) + (cells x3.toNatClampNeg)) (x3 + (1 : Int32)))))
def f_X8_mixedInto (wd : Int32) (NN : Nat) (rows : Int32) (cells : Nat → Int64) (x1 : Int64) : Option (Int64) := f_X8_mixedInto_L2 wd NN rows cells FU x1 (0 : Int32)
set_option maxHeartbeats 4000000 in
set_option maxRecDepth 100000 in
theorem c_X8_mixedInto {D : va_G} {cs : Nat → ClassId} {sa : Nat → Nat} {n : Nat} {ad : Nat → Nat} {A : Nat → Prop} (l : Launch) {en : Nat → va_E} {pp : Nat} {wd : Int32} {mo : Int32} {NN : Nat} {rows : Int32} {cells : Nat → Int64} {x1 : Int64}  {q : Int64} (hpn : pp + 1 < n) (e_T : en pp = .inr (5, [.int wd, .int mo, .ref (ad (pp + 1)), .int rows])) (e_Tc : en (pp + 1) = .inl (cs 2, NN, .inr (.inl (cells)))) (h : f_X8_mixedInto wd NN rows cells x1 = some q) : Met l yX8_mixedInto wsX8_mixedInto { frames := 0, cells := 0, slots := 0, locals := 0 } (va_Pc [.ref (ad pp), .long x1] (Wd D cs sa n ad A en)) (va_Ql (fun r u => q = r ∧ en = u) (Wd D cs sa n ad A) A) 0 0 A := by
  refine G_startL cX8_mixedInto 4 [(0, .ref (ad pp)), (1, .long x1)] (by decide) rfl (Nat.le_of_ble_eq_true rfl) rfl ?_
  intro p e s m args below meth c Q hC hnm Kr
  have inX8 : ∀ w ∈ u_ws RX8 TX8 4, w ∈ wsX8_mixedInto := by decide +kernel
  have k35 : Cond.constantLong RX8 35 (31) ∈ wsX8_mixedInto := by decide +kernel
  have m15 : Cond.fieldLink RX8 15 "TongueTip$Table" "width" "I" ∈ wsX8_mixedInto := by decide +kernel
  have m24 : Cond.fieldLink RX8 24 "TongueTip$Table" "cells" "[J" ∈ wsX8_mixedInto := by decide +kernel
  have m28 : Cond.fieldLink RX8 28 "TongueTip$Table" "rows" "I" ∈ wsX8_mixedInto := by decide +kernel
  have hL2 : ∀ (fu2 : Nat), ∀ (x1 : Int64) (x3 : Int32), f_X8_mixedInto_L2 wd NN rows cells fu2 x1 x3 = some q → G p l e ({ frames := 0, cells := 0, slots := 0, locals := 0 } : Room) s m args below meth c D n ad A 4 0 0 Q en 2 [(0, .ref (ad pp)), (1, .long x1), (3, .int x3)] [] := by
    intro fu2
    induction fu2 with
    | zero =>
      intro x1 x3 h
      rw [f_X8_mixedInto_L2] at h
      cases h
    | succ fu2 ih2 =>
      intro x1 x3 h
      rw [f_X8_mixedInto_L2] at h
      refine G_iload_n hC 3 2 rfl rfl dX8_mixedInto_2 ?_
      refine G_aload_n hC 0 0 rfl rfl dX8_mixedInto_3 ?_
      refine G_get hC inX8 pp (by omega) (v := .int rows) e_T rfl 3 (by decide) m28 rfl rfl dX8_mixedInto_4 ?_
      refine G_aload_n hC 0 0 rfl rfl dX8_mixedInto_7 ?_
      refine G_get hC inX8 pp (by omega) (v := .int wd) e_T rfl 0 (by decide) m15 rfl rfl dX8_mixedInto_8 ?_
      refine G_imul hC dX8_mixedInto_11 ?_
      refine G_icmp_ge hC 43 dX8_mixedInto_12 (by decide) (fun c12 => ?_) (fun c12 => ?_)
      · have h := ifp c12 h
        refine G_lload_n hC 1 1 rfl rfl dX8_mixedInto_43 ?_
        have h := Option.some.inj h
        subst h
        exact Kr _ _ _ _ ⟨rfl, rfl⟩ dX8_mixedInto_44
      have h := ifn c12 h
      refine G_iload_n hC 3 2 rfl rfl dX8_mixedInto_15 ?_
      refine G_aload_n hC 0 0 rfl rfl dX8_mixedInto_16 ?_
      refine G_get hC inX8 pp (by omega) (v := .ref (ad (pp + 1))) e_T rfl 2 (by decide) m24 rfl rfl dX8_mixedInto_17 ?_
      refine G_alen hC 2 (pp + 1) (by omega) e_Tc rfl rfl dX8_mixedInto_20 ?_
      refine G_icmp_ge hC 43 dX8_mixedInto_21 (by decide) (fun c21 => ?_) (fun c21 => ?_)
      · have h := ifp c21 h
        refine G_lload_n hC 1 1 rfl rfl dX8_mixedInto_43 ?_
        have h := Option.some.inj h
        subst h
        exact Kr _ _ _ _ ⟨rfl, rfl⟩ dX8_mixedInto_44
      have h := ifn c21 h
      refine G_ldc2 hC (v := (31)) k35 dX8_mixedInto_24 ?_
      refine G_lload_n hC 1 1 rfl rfl dX8_mixedInto_27 ?_
      refine G_lmul hC dX8_mixedInto_28 ?_
      refine G_aload_n hC 0 0 rfl rfl dX8_mixedInto_29 ?_
      refine G_get hC inX8 pp (by omega) (v := .ref (ad (pp + 1))) e_T rfl 2 (by decide) m24 rfl rfl dX8_mixedInto_30 ?_
      refine G_iload_n hC 3 2 rfl rfl dX8_mixedInto_33 ?_
      obtain ⟨g34, h⟩ := asn h
      refine G_lald hC (pp + 1) (by omega) e_Tc g34 dX8_mixedInto_34 ?_
      refine G_ladd hC dX8_mixedInto_35 ?_
      refine G_lstore_n hC 1 [(1, .long (((31 : Int64) * x1) + (cells x3.toNatClampNeg))), (0, .ref (ad pp)), (3, .int x3)] rfl (by decide) rfl dX8_mixedInto_36 ?_
      refine G_iinc hC 3 2 [(3, .int (x3 + (1 : Int32))), (1, .long (((31 : Int64) * x1) + (cells x3.toNatClampNeg))), (0, .ref (ad pp))] rfl rfl (by decide) rfl dX8_mixedInto_37 ?_
      refine G_goto hC 2 dX8_mixedInto_40 (by decide) ?_
      refine G_lv [2, 1, 0] rfl ?_
      exact ih2 _ _ h
  unfold f_X8_mixedInto at h
  refine G_iconst hC (v := 0) (by decide) dX8_mixedInto_0 ?_
  refine G_istore_n hC 3 [(3, .int (0 : Int32)), (0, .ref (ad pp)), (1, .long x1)] rfl (by decide) rfl dX8_mixedInto_1 ?_
  refine G_lv [1, 2, 0] rfl ?_
  exact hL2 FU _ _ h
def f_X8_become_L10 (NN : Nat) (NN2 : Nat) (rows2 : Int32) (cells2 : Nat → Int64)  : Nat → Int32 → (Nat → Int64) → Int32 → Option (Int32 × (Nat → Int64))
  | 0, _, _, _ => none
  | fu + 1, rows, cells, x2 => if Int32.ofNat NN ≤ x2 then (some (rows, cells)) else (if Int32.ofNat NN2 ≤ x2 then (some (rows, cells)) else (if x2 < 0 ∨ NN2 ≤ x2.toNatClampNeg then none else (if x2 < 0 ∨ NN ≤ x2.toNatClampNeg then none else (f_X8_become_L10 NN NN2 rows2 cells2 fu rows (vp_updL cells x2.toNatClampNeg (cells2 x2.toNatClampNeg)) (x2 + (1 : Int32))))))
def f_X8_become (NN : Nat) (rows : Int32) (cells : Nat → Int64) (NN2 : Nat) (rows2 : Int32) (cells2 : Nat → Int64)  : Option (Int32 × (Nat → Int64)) := f_X8_become_L10 NN NN2 rows2 cells2 FU rows2 cells (0 : Int32)
set_option maxHeartbeats 4000000 in
set_option maxRecDepth 100000 in
theorem c_X8_become {D : va_G} {cs : Nat → ClassId} {sa : Nat → Nat} {n : Nat} {ad : Nat → Nat} {A : Nat → Prop} (l : Launch) {en : Nat → va_E} {pp pp2 : Nat} {wd : Int32} {mo : Int32} {NN : Nat} {rows : Int32} {cells : Nat → Int64} {wd2 : Int32} {mo2 : Int32} {NN2 : Nat} {rows2 : Int32} {cells2 : Nat → Int64}   {q : Int32 × (Nat → Int64)} (hpn : pp + 1 < n) (hpn2 : pp2 + 1 < n) (hdj : pp + 2 ≤ pp2 ∨ pp2 + 2 ≤ pp) (e_T : en pp = .inr (5, [.int wd, .int mo, .ref (ad (pp + 1)), .int rows])) (e_T2 : en pp2 = .inr (5, [.int wd2, .int mo2, .ref (ad (pp2 + 1)), .int rows2])) (e_Tc : en (pp + 1) = .inl (cs 2, NN, .inr (.inl (cells)))) (e_Tc2 : en (pp2 + 1) = .inl (cs 2, NN2, .inr (.inl (cells2)))) (h : f_X8_become NN rows cells NN2 rows2 cells2 = some q) : Met l yX8_become wsX8_become { frames := 0, cells := 0, slots := 0, locals := 0 } (va_Pc [.ref (ad pp), .ref (ad pp2)] (Wd D cs sa n ad A en)) (va_Qv (fun u => u pp = .inr (5, [.int wd, .int mo, .ref (ad (pp + 1)), .int q.1]) ∧ u (pp + 1) = .inl (cs 2, NN, .inr (.inl (q.2))) ∧ (∀ j, (j < pp ∨ pp + 1 ≤ j) → (j < (pp + 1) ∨ (pp + 1) + 1 ≤ j) → u j = en j)) (Wd D cs sa n ad A) A) 0 0 A := by
  refine G_startV cX8_become 3 [(0, .ref (ad pp)), (1, .ref (ad pp2))] (by decide) rfl (Nat.le_of_ble_eq_true rfl) rfl ?_
  intro p e s m args below meth c Q hC hnm Kr
  have inX8 : ∀ w ∈ u_ws RX8 TX8 4, w ∈ wsX8_become := by decide +kernel
  have m24 : Cond.fieldLink RX8 24 "TongueTip$Table" "cells" "[J" ∈ wsX8_become := by decide +kernel
  have m28 : Cond.fieldLink RX8 28 "TongueTip$Table" "rows" "I" ∈ wsX8_become := by decide +kernel
  have hL10 : ∀ (fu10 : Nat), ∀ (en1 : Nat → va_E) (rows : Int32) (cells : Nat → Int64) (x2 : Int32), en1 pp = .inr (5, [.int wd, .int mo, .ref (ad (pp + 1)), .int rows]) → en1 pp2 = .inr (5, [.int wd2, .int mo2, .ref (ad (pp2 + 1)), .int rows2]) → en1 (pp + 1) = .inl (cs 2, NN, .inr (.inl (cells))) → en1 (pp2 + 1) = .inl (cs 2, NN2, .inr (.inl (cells2))) → (∀ j, (j < pp ∨ pp + 1 ≤ j) → (j < (pp + 1) ∨ (pp + 1) + 1 ≤ j) → en1 j = en j) → f_X8_become_L10 NN NN2 rows2 cells2 fu10 rows cells x2 = some q → G p l e ({ frames := 0, cells := 0, slots := 0, locals := 0 } : Room) s m args below meth c D n ad A 3 0 0 Q en1 10 [(0, .ref (ad pp)), (1, .ref (ad pp2)), (2, .int x2)] [] := by
    intro fu10
    induction fu10 with
    | zero =>
      intro en1 rows cells x2 e_T e_T2 e_Tc e_Tc2 hfr h
      rw [f_X8_become_L10] at h
      cases h
    | succ fu10 ih10 =>
      intro en1 rows cells x2 e_T e_T2 e_Tc e_Tc2 hfr h
      rw [f_X8_become_L10] at h
      refine G_iload_n hC 2 2 rfl rfl dX8_become_10 ?_
      refine G_aload_n hC 0 0 rfl rfl dX8_become_11 ?_
      refine G_get hC inX8 pp (by omega) (v := .ref (ad (pp + 1))) e_T rfl 2 (by decide) m24 rfl rfl dX8_become_12 ?_
      refine G_alen hC 2 (pp + 1) (by omega) e_Tc rfl rfl dX8_become_15 ?_
      refine G_icmp_ge hC 46 dX8_become_16 (by decide) (fun c16 => ?_) (fun c16 => ?_)
      · have h := ifp c16 h
        have h := Option.some.inj h
        subst h
        exact Kr _ _ _ ⟨e_T, e_Tc, hfr⟩ dX8_become_46
      have h := ifn c16 h
      refine G_iload_n hC 2 2 rfl rfl dX8_become_19 ?_
      refine G_aload_n hC 1 1 rfl rfl dX8_become_20 ?_
      refine G_get hC inX8 pp2 (by omega) (v := .ref (ad (pp2 + 1))) e_T2 rfl 2 (by decide) m24 rfl rfl dX8_become_21 ?_
      refine G_alen hC 2 (pp2 + 1) (by omega) e_Tc2 rfl rfl dX8_become_24 ?_
      refine G_icmp_ge hC 46 dX8_become_25 (by decide) (fun c25 => ?_) (fun c25 => ?_)
      · have h := ifp c25 h
        have h := Option.some.inj h
        subst h
        exact Kr _ _ _ ⟨e_T, e_Tc, hfr⟩ dX8_become_46
      have h := ifn c25 h
      refine G_aload_n hC 0 0 rfl rfl dX8_become_28 ?_
      refine G_get hC inX8 pp (by omega) (v := .ref (ad (pp + 1))) e_T rfl 2 (by decide) m24 rfl rfl dX8_become_29 ?_
      refine G_iload_n hC 2 2 rfl rfl dX8_become_32 ?_
      refine G_aload_n hC 1 1 rfl rfl dX8_become_33 ?_
      refine G_get hC inX8 pp2 (by omega) (v := .ref (ad (pp2 + 1))) e_T2 rfl 2 (by decide) m24 rfl rfl dX8_become_34 ?_
      refine G_iload_n hC 2 2 rfl rfl dX8_become_37 ?_
      obtain ⟨g38, h⟩ := asn h
      refine G_lald hC (pp2 + 1) (by omega) e_Tc2 g38 dX8_become_38 ?_
      obtain ⟨g39, h⟩ := asn h
      refine G_last hC (pp + 1) (by omega) e_Tc g39 dX8_become_39 (fun en2 e_Tc fr => ?_)
      have e_Tc : en2 (pp + 1) = .inl (cs 2, NN, .inr (.inl (vp_updL cells x2.toNatClampNeg (cells2 x2.toNatClampNeg)))) := e_Tc
      have e_T := (fr pp (by omega)).trans e_T
      have e_T2 := (fr pp2 (by omega)).trans e_T2
      have e_Tc2 := (fr (pp2 + 1) (by omega)).trans e_Tc2
      have hfr : ∀ j, (j < pp ∨ pp + 1 ≤ j) → (j < (pp + 1) ∨ (pp + 1) + 1 ≤ j) → en2 j = en j := fun j o0 o1 => (fr j (by omega)).trans (hfr j o0 o1)
      refine G_iinc hC 2 2 [(2, .int (x2 + (1 : Int32))), (0, .ref (ad pp)), (1, .ref (ad pp2))] rfl rfl (by decide) rfl dX8_become_40 ?_
      refine G_goto hC 10 dX8_become_43 (by decide) ?_
      refine G_lv [1, 2, 0] rfl ?_
      exact ih10 _ _ _ _ e_T e_T2 e_Tc e_Tc2 hfr h
  unfold f_X8_become at h
  have hfr : ∀ j, (j < pp ∨ pp + 1 ≤ j) → (j < (pp + 1) ∨ (pp + 1) + 1 ≤ j) → en j = en j := fun _ _ _ => rfl
  refine G_aload_n hC 0 0 rfl rfl dX8_become_0 ?_
  refine G_aload_n hC 1 1 rfl rfl dX8_become_1 ?_
  refine G_get hC inX8 pp2 (by omega) (v := .int rows2) e_T2 rfl 3 (by decide) m28 rfl rfl dX8_become_2 ?_
  refine G_put hC inX8 tyX8 tyX8_ok nmX8 pp (by omega) e_T rfl 3 (by decide) m28 rfl rfl (ty := .int) rfl rfl rfl (Nat.le_of_ble_eq_true rfl) dX8_become_5 (fun en2 e_T fr => ?_)
  have e_T : en2 pp = .inr (5, [.int wd, .int mo, .ref (ad (pp + 1)), .int rows2]) := e_T
  have e_T2 := (fr pp2 (by omega)).trans e_T2
  have e_Tc := (fr (pp + 1) (by omega)).trans e_Tc
  have e_Tc2 := (fr (pp2 + 1) (by omega)).trans e_Tc2
  have hfr : ∀ j, (j < pp ∨ pp + 1 ≤ j) → (j < (pp + 1) ∨ (pp + 1) + 1 ≤ j) → en2 j = en j := fun j o0 o1 => (fr j (by omega)).trans (hfr j o0 o1)
  refine G_iconst hC (v := 0) (by decide) dX8_become_8 ?_
  refine G_istore_n hC 2 [(2, .int (0 : Int32)), (0, .ref (ad pp)), (1, .ref (ad pp2))] rfl (by decide) rfl dX8_become_9 ?_
  refine G_lv [1, 2, 0] rfl ?_
  exact hL10 FU _ _ _ _ e_T e_T2 e_Tc e_Tc2 hfr h
def f_X10_within  (x0 : Int32) (x1 : Int32) (x2 : Int32) : Option (Int32) := if x0 < x1 then (some (0 : Int32)) else (if x2 < x0 then (some (0 : Int32)) else (some (1 : Int32)))
set_option maxHeartbeats 4000000 in
set_option maxRecDepth 100000 in
theorem c_X10_within {D : va_G} {cs : Nat → ClassId} {sa : Nat → Nat} {n : Nat} {ad : Nat → Nat} {A : Nat → Prop} (l : Launch) {en : Nat → va_E}   {x0 : Int32} {x1 : Int32} {x2 : Int32}  {q : Int32}   (h : f_X10_within x0 x1 x2 = some q) : Met l yX10_within wsX10_within { frames := 0, cells := 0, slots := 0, locals := 0 } (va_Pc [.int x0, .int x1, .int x2] (Wd D cs sa n ad A en)) (va_Qi (fun r u => q = r ∧ en = u) (Wd D cs sa n ad A) A) 0 0 A := by
  refine G_startI cX10_within 3 [(0, .int x0), (1, .int x1), (2, .int x2)] (by decide) rfl (Nat.le_of_ble_eq_true rfl) rfl ?_
  intro p e s m args below meth c Q hC hnm Kr
  unfold f_X10_within at h
  refine G_iload_n hC 0 0 rfl rfl dX10_within_0 ?_
  refine G_iload_n hC 1 1 rfl rfl dX10_within_1 ?_
  refine G_icmp_lt hC 14 dX10_within_2 (by decide) (fun c2 => ?_) (fun c2 => ?_)
  · have h := ifp c2 h
    refine G_iconst hC (v := 0) (by decide) dX10_within_14 ?_
    have h := Option.some.inj h
    subst h
    exact Kr _ _ _ _ (by decide) ⟨rfl, rfl⟩ dX10_within_15
  have h := ifn c2 h
  refine G_iload_n hC 0 0 rfl rfl dX10_within_5 ?_
  refine G_iload_n hC 2 2 rfl rfl dX10_within_6 ?_
  refine G_icmp_gt hC 14 dX10_within_7 (by decide) (fun c7 => ?_) (fun c7 => ?_)
  · have h := ifp c7 h
    refine G_iconst hC (v := 0) (by decide) dX10_within_14 ?_
    have h := Option.some.inj h
    subst h
    exact Kr _ _ _ _ (by decide) ⟨rfl, rfl⟩ dX10_within_15
  have h := ifn c7 h
  refine G_iconst hC (v := 1) (by decide) dX10_within_10 ?_
  refine G_goto hC 15 dX10_within_11 (by decide) ?_
  have h := Option.some.inj h
  subst h
  exact Kr _ _ _ _ (by decide) ⟨rfl, rfl⟩ dX10_within_15
def f_X10_isIn  (x0 : Int32) (x1 : Int32) : Option (Int32) := if x1 < 0 then (some (0 : Int32)) else (if (32 : Int32) ≤ x1 then (some (0 : Int32)) else (if ((x0.toUInt32 >>> (x1.toUInt32 &&& Int32.toUInt32 31)).toInt32) &&& (1 : Int32) = (1 : Int32) then (some (1 : Int32)) else (some (0 : Int32))))
set_option maxHeartbeats 4000000 in
set_option maxRecDepth 100000 in
theorem c_X10_isIn {D : va_G} {cs : Nat → ClassId} {sa : Nat → Nat} {n : Nat} {ad : Nat → Nat} {A : Nat → Prop} (l : Launch) {en : Nat → va_E}   {x0 : Int32} {x1 : Int32}  {q : Int32}   (h : f_X10_isIn x0 x1 = some q) : Met l yX10_isIn wsX10_isIn { frames := 0, cells := 0, slots := 0, locals := 0 } (va_Pc [.int x0, .int x1] (Wd D cs sa n ad A en)) (va_Qi (fun r u => q = r ∧ en = u) (Wd D cs sa n ad A) A) 0 0 A := by
  refine G_startI cX10_isIn 2 [(0, .int x0), (1, .int x1)] (by decide) rfl (Nat.le_of_ble_eq_true rfl) rfl ?_
  intro p e s m args below meth c Q hC hnm Kr
  unfold f_X10_isIn at h
  refine G_iload_n hC 1 1 rfl rfl dX10_isIn_0 ?_
  refine G_if_lt hC 23 dX10_isIn_1 (by decide) (fun c1 => ?_) (fun c1 => ?_)
  · have h := ifp c1 h
    refine G_iconst hC (v := 0) (by decide) dX10_isIn_23 ?_
    have h := Option.some.inj h
    subst h
    exact Kr _ _ _ _ (by decide) ⟨rfl, rfl⟩ dX10_isIn_24
  have h := ifn c1 h
  refine G_iload_n hC 1 1 rfl rfl dX10_isIn_4 ?_
  refine G_bipush hC (v := 32) (by decide) dX10_isIn_5 ?_
  refine G_icmp_ge hC 23 dX10_isIn_7 (by decide) (fun c7 => ?_) (fun c7 => ?_)
  · have h := ifp c7 h
    refine G_iconst hC (v := 0) (by decide) dX10_isIn_23 ?_
    have h := Option.some.inj h
    subst h
    exact Kr _ _ _ _ (by decide) ⟨rfl, rfl⟩ dX10_isIn_24
  have h := ifn c7 h
  refine G_iload_n hC 0 0 rfl rfl dX10_isIn_10 ?_
  refine G_iload_n hC 1 1 rfl rfl dX10_isIn_11 ?_
  refine G_iushr hC dX10_isIn_12 ?_
  refine G_iconst hC (v := 1) (by decide) dX10_isIn_13 ?_
  refine G_iand hC dX10_isIn_14 ?_
  refine G_iconst hC (v := 1) (by decide) dX10_isIn_15 ?_
  refine G_icmp_ne hC 23 dX10_isIn_16 (by decide) (fun c16 => ?_) (fun c16 => ?_)
  · have h := ifn c16 h
    refine G_iconst hC (v := 0) (by decide) dX10_isIn_23 ?_
    have h := Option.some.inj h
    subst h
    exact Kr _ _ _ _ (by decide) ⟨rfl, rfl⟩ dX10_isIn_24
  have h := ifp c16 h
  refine G_iconst hC (v := 1) (by decide) dX10_isIn_19 ?_
  refine G_goto hC 24 dX10_isIn_20 (by decide) ?_
  have h := Option.some.inj h
  subst h
  exact Kr _ _ _ _ (by decide) ⟨rfl, rfl⟩ dX10_isIn_24
def f_X10_commonDivisor_L3   : Nat → Int64 → Int64 → Int32 → Option (Int64)
  | 0, _, _, _ => none
  | fu + 1, x0, x2, x4 => if (200 : Int32) ≤ x4 then (some x0) else (if lg_cmp x2 (0 : Int64) = 0 then (some x0) else (if x2 = 0 then none else (f_X10_commonDivisor_L3 fu x2 (lrm x0 x2) (x4 + (1 : Int32)))))
def f_X10_commonDivisor  (x0 : Int64) (x2 : Int64) : Option (Int64) := f_X10_commonDivisor_L3 FU x0 x2 (0 : Int32)
set_option maxHeartbeats 4000000 in
set_option maxRecDepth 100000 in
theorem c_X10_commonDivisor {D : va_G} {cs : Nat → ClassId} {sa : Nat → Nat} {n : Nat} {ad : Nat → Nat} {A : Nat → Prop} (l : Launch) {en : Nat → va_E}   {x0 : Int64} {x2 : Int64}  {q : Int64}   (h : f_X10_commonDivisor x0 x2 = some q) : Met l yX10_commonDivisor wsX10_commonDivisor { frames := 0, cells := 0, slots := 0, locals := 0 } (va_Pc [.long x0, .long x2] (Wd D cs sa n ad A en)) (va_Ql (fun r u => q = r ∧ en = u) (Wd D cs sa n ad A) A) 0 0 A := by
  refine G_startL cX10_commonDivisor 7 [(0, .long x0), (2, .long x2)] (by decide) rfl (Nat.le_of_ble_eq_true rfl) rfl ?_
  intro p e s m args below meth c Q hC hnm Kr
  have hL3 : ∀ (fu3 : Nat), ∀ (x0 : Int64) (x2 : Int64) (x4 : Int32), f_X10_commonDivisor_L3 fu3 x0 x2 x4 = some q → G p l e ({ frames := 0, cells := 0, slots := 0, locals := 0 } : Room) s m args below meth c D n ad A 7 0 0 Q en 3 [(0, .long x0), (2, .long x2), (4, .int x4)] [] := by
    intro fu3
    induction fu3 with
    | zero =>
      intro x0 x2 x4 h
      rw [f_X10_commonDivisor_L3] at h
      cases h
    | succ fu3 ih3 =>
      intro x0 x2 x4 h
      rw [f_X10_commonDivisor_L3] at h
      refine G_iload hC 4 2 rfl dX10_commonDivisor_3 ?_
      refine G_sipush hC (v := 200) (by decide) dX10_commonDivisor_5 ?_
      refine G_icmp_ge hC 33 dX10_commonDivisor_8 (by decide) (fun c8 => ?_) (fun c8 => ?_)
      · have h := ifp c8 h
        refine G_lload_n hC 0 0 rfl rfl dX10_commonDivisor_33 ?_
        have h := Option.some.inj h
        subst h
        exact Kr _ _ _ _ ⟨rfl, rfl⟩ dX10_commonDivisor_34
      have h := ifn c8 h
      refine G_lload_n hC 2 1 rfl rfl dX10_commonDivisor_11 ?_
      refine G_lconst hC (v := 0) (by decide) dX10_commonDivisor_12 ?_
      refine G_lcmp hC dX10_commonDivisor_13 ?_
      refine G_if_eq hC 33 dX10_commonDivisor_14 (by decide) (fun c14 => ?_) (fun c14 => ?_)
      · have h := ifp c14 h
        refine G_lload_n hC 0 0 rfl rfl dX10_commonDivisor_33 ?_
        have h := Option.some.inj h
        subst h
        exact Kr _ _ _ _ ⟨rfl, rfl⟩ dX10_commonDivisor_34
      have h := ifn c14 h
      refine G_lload_n hC 0 0 rfl rfl dX10_commonDivisor_17 ?_
      refine G_lload_n hC 2 1 rfl rfl dX10_commonDivisor_18 ?_
      obtain ⟨g19, h⟩ := asn h
      refine G_lrem hC g19 dX10_commonDivisor_19 ?_
      refine G_lstore hC 5 [(5, .long (lrm x0 x2)), (0, .long x0), (2, .long x2), (4, .int x4)] (by decide) rfl dX10_commonDivisor_20 ?_
      refine G_lload_n hC 2 2 rfl rfl dX10_commonDivisor_22 ?_
      refine G_lstore_n hC 0 [(0, .long x2), (5, .long (lrm x0 x2)), (2, .long x2), (4, .int x4)] rfl (by decide) rfl dX10_commonDivisor_23 ?_
      refine G_lload hC 5 1 rfl dX10_commonDivisor_24 ?_
      refine G_lstore_n hC 2 [(2, .long (lrm x0 x2)), (0, .long x2), (5, .long (lrm x0 x2)), (4, .int x4)] rfl (by decide) rfl dX10_commonDivisor_26 ?_
      refine G_iinc hC 4 3 [(4, .int (x4 + (1 : Int32))), (2, .long (lrm x0 x2)), (0, .long x2), (5, .long (lrm x0 x2))] rfl rfl (by decide) rfl dX10_commonDivisor_27 ?_
      refine G_goto hC 3 dX10_commonDivisor_30 (by decide) ?_
      refine G_lv [2, 1, 0] rfl ?_
      exact ih3 _ _ _ h
  unfold f_X10_commonDivisor at h
  refine G_iconst hC (v := 0) (by decide) dX10_commonDivisor_0 ?_
  refine G_istore hC 4 [(4, .int (0 : Int32)), (0, .long x0), (2, .long x2)] (by decide) rfl dX10_commonDivisor_1 ?_
  refine G_lv [1, 2, 0] rfl ?_
  exact hL3 FU _ _ _ h
def f_X10_at (arr : Nat → Int32) (NA : Nat) (x1 : Int32) : Option (Int32) := if x1 < 0 then (some (0 : Int32)) else (if Int32.ofNat NA ≤ x1 then (some (0 : Int32)) else (if x1 < 0 ∨ NA ≤ x1.toNatClampNeg then none else (some (arr x1.toNatClampNeg))))
set_option maxHeartbeats 4000000 in
set_option maxRecDepth 100000 in
theorem c_X10_at {D : va_G} {cs : Nat → ClassId} {sa : Nat → Nat} {n : Nat} {ad : Nat → Nat} {A : Nat → Prop} (l : Launch) {en : Nat → va_E} {pp : Nat} {arr : Nat → Int32} {NA : Nat} {x1 : Int32}  {q : Int32} (hpa : pp < n) (e_Aarr : en pp = .inl (cs 1, NA, .inl (arr))) (h : f_X10_at arr NA x1 = some q) : Met l yX10_at wsX10_at { frames := 0, cells := 0, slots := 0, locals := 0 } (va_Pc [.ref (ad pp), .int x1] (Wd D cs sa n ad A en)) (va_Qi (fun r u => q = r ∧ en = u) (Wd D cs sa n ad A) A) 0 0 A := by
  refine G_startI cX10_at 2 [(0, .ref (ad pp)), (1, .int x1)] (by decide) rfl (Nat.le_of_ble_eq_true rfl) rfl ?_
  intro p e s m args below meth c Q hC hnm Kr
  unfold f_X10_at at h
  refine G_aload_n hC 0 0 rfl rfl dX10_at_0 ?_
  refine G_ifnull hC dX10_at_1 ?_
  refine G_iload_n hC 1 1 rfl rfl dX10_at_4 ?_
  refine G_if_lt hC 20 dX10_at_5 (by decide) (fun c5 => ?_) (fun c5 => ?_)
  · have h := ifp c5 h
    refine G_iconst hC (v := 0) (by decide) dX10_at_20 ?_
    have h := Option.some.inj h
    subst h
    exact Kr _ _ _ _ (nar_i _) ⟨rfl, rfl⟩ dX10_at_21
  have h := ifn c5 h
  refine G_iload_n hC 1 1 rfl rfl dX10_at_8 ?_
  refine G_aload_n hC 0 0 rfl rfl dX10_at_9 ?_
  refine G_alen hC 1 pp (by omega) e_Aarr rfl rfl dX10_at_10 ?_
  refine G_icmp_ge hC 20 dX10_at_11 (by decide) (fun c11 => ?_) (fun c11 => ?_)
  · have h := ifp c11 h
    refine G_iconst hC (v := 0) (by decide) dX10_at_20 ?_
    have h := Option.some.inj h
    subst h
    exact Kr _ _ _ _ (nar_i _) ⟨rfl, rfl⟩ dX10_at_21
  have h := ifn c11 h
  refine G_aload_n hC 0 0 rfl rfl dX10_at_14 ?_
  refine G_iload_n hC 1 1 rfl rfl dX10_at_15 ?_
  obtain ⟨g16, h⟩ := asn h
  refine G_iald hC pp (by omega) e_Aarr g16 dX10_at_16 ?_
  refine G_goto hC 21 dX10_at_17 (by decide) ?_
  have h := Option.some.inj h
  subst h
  exact Kr _ _ _ _ (nar_i _) ⟨rfl, rfl⟩ dX10_at_21
def f_X10_at_s (ist : Nat) (x1 : Int32) : Option (Int32) := if x1 < 0 then (some (0 : Int32)) else (if Int32.ofNat (stN ist) ≤ x1 then (some (0 : Int32)) else (if x1 < 0 ∨ stN ist ≤ x1.toNatClampNeg then none else (some (stF ist x1.toNatClampNeg))))
set_option maxHeartbeats 4000000 in
set_option maxRecDepth 100000 in
theorem c_X10_at_s {D : va_G} {cs : Nat → ClassId} {sa : Nat → Nat} {n : Nat} {ad : Nat → Nat} {A : Nat → Prop} (l : Launch) {en : Nat → va_E}  {ist : Nat} {x1 : Int32} (hist : ist < 6) {q : Int32}   (h : f_X10_at_s ist x1 = some q) : Met l yX10_at wsX10_at { frames := 0, cells := 0, slots := 0, locals := 0 } (va_Pc [.ref (sa ist), .int x1] (Wd D cs sa n ad A en)) (va_Qi (fun r u => q = r ∧ en = u) (Wd D cs sa n ad A) A) 0 0 A := by
  refine G_startI cX10_at 2 [(0, .ref (sa ist)), (1, .int x1)] (by decide) rfl (Nat.le_of_ble_eq_true rfl) rfl ?_
  intro p e s m args below meth c Q hC hnm Kr
  unfold f_X10_at_s at h
  refine G_aload_n hC 0 0 rfl rfl dX10_at_0 ?_
  refine G_ifnull hC dX10_at_1 ?_
  refine G_iload_n hC 1 1 rfl rfl dX10_at_4 ?_
  refine G_if_lt hC 20 dX10_at_5 (by decide) (fun c5 => ?_) (fun c5 => ?_)
  · have h := ifp c5 h
    refine G_iconst hC (v := 0) (by decide) dX10_at_20 ?_
    have h := Option.some.inj h
    subst h
    exact Kr _ _ _ _ (nar_i _) ⟨rfl, rfl⟩ dX10_at_21
  have h := ifn c5 h
  refine G_iload_n hC 1 1 rfl rfl dX10_at_8 ?_
  refine G_aload_n hC 0 0 rfl rfl dX10_at_9 ?_
  refine G_tlen hC ist hist dX10_at_10 ?_
  refine G_icmp_ge hC 20 dX10_at_11 (by decide) (fun c11 => ?_) (fun c11 => ?_)
  · have h := ifp c11 h
    refine G_iconst hC (v := 0) (by decide) dX10_at_20 ?_
    have h := Option.some.inj h
    subst h
    exact Kr _ _ _ _ (nar_i _) ⟨rfl, rfl⟩ dX10_at_21
  have h := ifn c11 h
  refine G_aload_n hC 0 0 rfl rfl dX10_at_14 ?_
  refine G_iload_n hC 1 1 rfl rfl dX10_at_15 ?_
  obtain ⟨g16, h⟩ := asn h
  refine G_ti hC ist hist g16 dX10_at_16 ?_
  refine G_goto hC 21 dX10_at_17 (by decide) ?_
  have h := Option.some.inj h
  subst h
  exact Kr _ _ _ _ (nar_i _) ⟨rfl, rfl⟩ dX10_at_21
def f_X10_set (arr : Nat → Int32) (NA : Nat) (x1 : Int32) (x2 : Int32) : Option ((Nat → Int32)) := if x1 < 0 then (some arr) else (if Int32.ofNat NA ≤ x1 then (some arr) else (if x1 < 0 ∨ NA ≤ x1.toNatClampNeg then none else (some (upd arr x1.toNatClampNeg x2))))
set_option maxHeartbeats 4000000 in
set_option maxRecDepth 100000 in
theorem c_X10_set {D : va_G} {cs : Nat → ClassId} {sa : Nat → Nat} {n : Nat} {ad : Nat → Nat} {A : Nat → Prop} (l : Launch) {en : Nat → va_E} {pp : Nat} {arr : Nat → Int32} {NA : Nat} {x1 : Int32} {x2 : Int32}  {q : (Nat → Int32)} (hpa : pp < n) (e_Aarr : en pp = .inl (cs 1, NA, .inl (arr))) (h : f_X10_set arr NA x1 x2 = some q) : Met l yX10_set wsX10_set { frames := 0, cells := 0, slots := 0, locals := 0 } (va_Pc [.ref (ad pp), .int x1, .int x2] (Wd D cs sa n ad A en)) (va_Qv (fun u => u pp = .inl (cs 1, NA, .inl (q)) ∧ (∀ j, (j < pp ∨ pp + 1 ≤ j) → u j = en j)) (Wd D cs sa n ad A) A) 0 0 A := by
  refine G_startV cX10_set 3 [(0, .ref (ad pp)), (1, .int x1), (2, .int x2)] (by decide) rfl (Nat.le_of_ble_eq_true rfl) rfl ?_
  intro p e s m args below meth c Q hC hnm Kr
  unfold f_X10_set at h
  have hfr : ∀ j, (j < pp ∨ pp + 1 ≤ j) → en j = en j := fun _ _ => rfl
  refine G_aload_n hC 0 0 rfl rfl dX10_set_0 ?_
  refine G_ifnull hC dX10_set_1 ?_
  refine G_iload_n hC 1 1 rfl rfl dX10_set_4 ?_
  refine G_if_lt hC 18 dX10_set_5 (by decide) (fun c5 => ?_) (fun c5 => ?_)
  · have h := ifp c5 h
    have h := Option.some.inj h
    subst h
    exact Kr _ _ _ ⟨e_Aarr, hfr⟩ dX10_set_18
  have h := ifn c5 h
  refine G_iload_n hC 1 1 rfl rfl dX10_set_8 ?_
  refine G_aload_n hC 0 0 rfl rfl dX10_set_9 ?_
  refine G_alen hC 1 pp (by omega) e_Aarr rfl rfl dX10_set_10 ?_
  refine G_icmp_ge hC 18 dX10_set_11 (by decide) (fun c11 => ?_) (fun c11 => ?_)
  · have h := ifp c11 h
    have h := Option.some.inj h
    subst h
    exact Kr _ _ _ ⟨e_Aarr, hfr⟩ dX10_set_18
  have h := ifn c11 h
  refine G_aload_n hC 0 0 rfl rfl dX10_set_14 ?_
  refine G_iload_n hC 1 1 rfl rfl dX10_set_15 ?_
  refine G_iload_n hC 2 2 rfl rfl dX10_set_16 ?_
  obtain ⟨g17, h⟩ := asn h
  refine G_iast hC pp (by omega) e_Aarr g17 dX10_set_17 (fun en2 e_Aarr fr => ?_)
  have e_Aarr : en2 pp = .inl (cs 1, NA, .inl (upd arr x1.toNatClampNeg x2)) := e_Aarr
  have hfr : ∀ j, (j < pp ∨ pp + 1 ≤ j) → en2 j = en j := fun j o0 => (fr j (by omega)).trans (hfr j o0)
  have h := Option.some.inj h
  subst h
  exact Kr _ _ _ ⟨e_Aarr, hfr⟩ dX10_set_18
def f_X2_lettersOf_B24  (rL4 : Int64 → Int32 → Int32 → Option (Int32)) (x0 : Int64) (x2 : Int32) (x3 : Int32) : Option (Int32) := rL4 x0 x2 (x3 + (1 : Int32))
def f_X2_lettersOf_L4   : Nat → Int64 → Int32 → Int32 → Option (Int32)
  | 0, _, _, _ => none
  | fu + 1, x0, x2, x3 => if (7 : Int32) ≤ x3 then (some x2) else (if lg_cmp (x0 >>> (((5 : Int32) * x3).toInt64 &&& (63 : Int64))) (0 : Int64) ≤ 0 then (f_X2_lettersOf_B24 (f_X2_lettersOf_L4 fu) x0 x2 x3) else (f_X2_lettersOf_B24 (f_X2_lettersOf_L4 fu) x0 (x3 + (1 : Int32)) x3))
def f_X2_lettersOf  (x0 : Int64) : Option (Int32) := f_X2_lettersOf_L4 FU x0 (0 : Int32) (0 : Int32)
set_option maxHeartbeats 4000000 in
set_option maxRecDepth 100000 in
theorem c_X2_lettersOf {D : va_G} {cs : Nat → ClassId} {sa : Nat → Nat} {n : Nat} {ad : Nat → Nat} {A : Nat → Prop} (l : Launch) {en : Nat → va_E}   {x0 : Int64}  {q : Int32}   (h : f_X2_lettersOf x0 = some q) : Met l yX2_lettersOf wsX2_lettersOf { frames := 0, cells := 0, slots := 0, locals := 0 } (va_Pc [.long x0] (Wd D cs sa n ad A en)) (va_Qi (fun r u => q = r ∧ en = u) (Wd D cs sa n ad A) A) 0 0 A := by
  refine G_startI cX2_lettersOf 4 [(0, .long x0)] (by decide) rfl (Nat.le_of_ble_eq_true rfl) rfl ?_
  intro p e s m args below meth c Q hC hnm Kr
  have hL4 : ∀ (fu4 : Nat), ∀ (x0 : Int64) (x2 : Int32) (x3 : Int32), f_X2_lettersOf_L4 fu4 x0 x2 x3 = some q → G p l e ({ frames := 0, cells := 0, slots := 0, locals := 0 } : Room) s m args below meth c D n ad A 4 0 0 Q en 4 [(0, .long x0), (2, .int x2), (3, .int x3)] [] := by
    intro fu4
    induction fu4 with
    | zero =>
      intro x0 x2 x3 h
      rw [f_X2_lettersOf_L4] at h
      cases h
    | succ fu4 ih4 =>
      have hB24 : ∀ (x0 : Int64) (x2 : Int32) (x3 : Int32), f_X2_lettersOf_B24 (f_X2_lettersOf_L4 fu4) x0 x2 x3 = some q → G p l e ({ frames := 0, cells := 0, slots := 0, locals := 0 } : Room) s m args below meth c D n ad A 4 0 0 Q en 24 [(0, .long x0), (2, .int x2), (3, .int x3)] [] := by
        intro x0 x2 x3 h
        unfold f_X2_lettersOf_B24 at h
        refine G_iinc hC 3 2 [(3, .int (x3 + (1 : Int32))), (0, .long x0), (2, .int x2)] rfl rfl (by decide) rfl dX2_lettersOf_24 ?_
        refine G_goto hC 4 dX2_lettersOf_27 (by decide) ?_
        refine G_lv [1, 2, 0] rfl ?_
        exact ih4 _ _ _ h
      intro x0 x2 x3 h
      rw [f_X2_lettersOf_L4] at h
      refine G_iload_n hC 3 2 rfl rfl dX2_lettersOf_4 ?_
      refine G_bipush hC (v := 7) (by decide) dX2_lettersOf_5 ?_
      refine G_icmp_ge hC 30 dX2_lettersOf_7 (by decide) (fun c7 => ?_) (fun c7 => ?_)
      · have h := ifp c7 h
        refine G_iload_n hC 2 1 rfl rfl dX2_lettersOf_30 ?_
        have h := Option.some.inj h
        subst h
        exact Kr _ _ _ _ (nar_i _) ⟨rfl, rfl⟩ dX2_lettersOf_31
      have h := ifn c7 h
      refine G_lload_n hC 0 0 rfl rfl dX2_lettersOf_10 ?_
      refine G_iconst hC (v := 5) (by decide) dX2_lettersOf_11 ?_
      refine G_iload_n hC 3 2 rfl rfl dX2_lettersOf_12 ?_
      refine G_imul hC dX2_lettersOf_13 ?_
      refine G_lshr hC dX2_lettersOf_14 ?_
      refine G_lconst hC (v := 0) (by decide) dX2_lettersOf_15 ?_
      refine G_lcmp hC dX2_lettersOf_16 ?_
      refine G_if_le hC 24 dX2_lettersOf_17 (by decide) (fun c17 => ?_) (fun c17 => ?_)
      · have h := ifp c17 h
        refine G_lv [0, 1, 2] rfl ?_
        exact hB24 _ _ _ h
      have h := ifn c17 h
      refine G_iload_n hC 3 2 rfl rfl dX2_lettersOf_20 ?_
      refine G_iconst hC (v := 1) (by decide) dX2_lettersOf_21 ?_
      refine G_iadd hC dX2_lettersOf_22 ?_
      refine G_istore_n hC 2 [(2, .int (x3 + (1 : Int32))), (0, .long x0), (3, .int x3)] rfl (by decide) rfl dX2_lettersOf_23 ?_
      refine G_lv [1, 0, 2] rfl ?_
      exact hB24 _ _ _ h
  unfold f_X2_lettersOf at h
  refine G_iconst hC (v := 0) (by decide) dX2_lettersOf_0 ?_
  refine G_istore_n hC 2 [(2, .int (0 : Int32)), (0, .long x0)] rfl (by decide) rfl dX2_lettersOf_1 ?_
  refine G_iconst hC (v := 0) (by decide) dX2_lettersOf_2 ?_
  refine G_istore_n hC 3 [(3, .int (0 : Int32)), (2, .int (0 : Int32)), (0, .long x0)] rfl (by decide) rfl dX2_lettersOf_3 ?_
  refine G_lv [2, 1, 0] rfl ?_
  exact hL4 FU _ _ _ h
def f_X2_letterFromEnd  (x0 : Int64) (x2 : Int32) : Option (Int32) := some (((x0 >>> (((5 : Int32) * x2).toInt64 &&& (63 : Int64))) &&& (31 : Int64)).toInt32)
set_option maxHeartbeats 4000000 in
set_option maxRecDepth 100000 in
theorem c_X2_letterFromEnd {D : va_G} {cs : Nat → ClassId} {sa : Nat → Nat} {n : Nat} {ad : Nat → Nat} {A : Nat → Prop} (l : Launch) {en : Nat → va_E}   {x0 : Int64} {x2 : Int32}  {q : Int32}   (h : f_X2_letterFromEnd x0 x2 = some q) : Met l yX2_letterFromEnd wsX2_letterFromEnd { frames := 0, cells := 0, slots := 0, locals := 0 } (va_Pc [.long x0, .int x2] (Wd D cs sa n ad A en)) (va_Qi (fun r u => q = r ∧ en = u) (Wd D cs sa n ad A) A) 0 0 A := by
  refine G_startI cX2_letterFromEnd 3 [(0, .long x0), (2, .int x2)] (by decide) rfl (Nat.le_of_ble_eq_true rfl) rfl ?_
  intro p e s m args below meth c Q hC hnm Kr
  have k25 : Cond.constantLong RX2 25 (31) ∈ wsX2_letterFromEnd := by decide +kernel
  unfold f_X2_letterFromEnd at h
  refine G_lload_n hC 0 0 rfl rfl dX2_letterFromEnd_0 ?_
  refine G_iconst hC (v := 5) (by decide) dX2_letterFromEnd_1 ?_
  refine G_iload_n hC 2 1 rfl rfl dX2_letterFromEnd_2 ?_
  refine G_imul hC dX2_letterFromEnd_3 ?_
  refine G_lshr hC dX2_letterFromEnd_4 ?_
  refine G_ldc2 hC (v := (31)) k25 dX2_letterFromEnd_5 ?_
  refine G_land hC dX2_letterFromEnd_8 ?_
  refine G_l2i hC dX2_letterFromEnd_9 ?_
  have h := Option.some.inj h
  subst h
  exact Kr _ _ _ _ (nar_i _) ⟨rfl, rfl⟩ dX2_letterFromEnd_10
def f_X2_isName_B58  (rL28 : Int64 → Int32 → Int32 → Int32 → Option (Int32)) (x0 : Int64) (x2 : Int32) (x4 : Int32) (s0 : Int32) : Option (Int32) := rL28 x0 x2 s0 (x4 + (1 : Int32))
def f_X2_isName_B57  (rL28 : Int64 → Int32 → Int32 → Int32 → Option (Int32)) (x0 : Int64) (x2 : Int32) (x4 : Int32) : Option (Int32) := f_X2_isName_B58 rL28 x0 x2 x4 (0 : Int32)
def f_X2_isName_L28   : Nat → Int64 → Int32 → Int32 → Int32 → Option (Int32)
  | 0, _, _, _, _ => none
  | fu + 1, x0, x2, x3, x4 => if x2 ≤ x4 then (if x3 = 0 ∨ x3 = 1 then (some x3) else none) else (if x3 = 0 then (f_X2_isName_B57 (f_X2_isName_L28 fu) x0 x2 x4) else (Option.bind (f_X2_letterFromEnd x0 x4) (fun q41 => Option.bind (f_X10_within q41 (1 : Int32) (26 : Int32)) (fun q47 => if q47 = 0 then (f_X2_isName_B57 (f_X2_isName_L28 fu) x0 x2 x4) else (f_X2_isName_B58 (f_X2_isName_L28 fu) x0 x2 x4 (1 : Int32))))))
def f_X2_isName_B24   (x0 : Int64) (x2 : Int32) (s0 : Int32) : Option (Int32) := f_X2_isName_L28 FU x0 x2 s0 (0 : Int32)
def f_X2_isName_B23   (x0 : Int64) (x2 : Int32) : Option (Int32) := f_X2_isName_B24 x0 x2 (0 : Int32)
def f_X2_isName  (x0 : Int64) : Option (Int32) := Option.bind (f_X2_lettersOf x0) (fun q1 => if lg_cmp x0 (0 : Int64) ≤ 0 then (f_X2_isName_B23 x0 q1) else (if 0 ≤ lg_cmp x0 (34359738368 : Int64) then (f_X2_isName_B23 x0 q1) else (f_X2_isName_B24 x0 q1 (1 : Int32))))
set_option maxHeartbeats 4000000 in
set_option maxRecDepth 100000 in
theorem c_X2_isName {D : va_G} {cs : Nat → ClassId} {sa : Nat → Nat} {n : Nat} {ad : Nat → Nat} {A : Nat → Prop} (l : Launch) {en : Nat → va_E}   {x0 : Int64}  {q : Int32}   (h : f_X2_isName x0 = some q) : Met l yX2_isName wsX2_isName { frames := 1, cells := 0, slots := 0, locals := 23 } (va_Pc [.long x0] (Wd D cs sa n ad A en)) (va_Qi (fun r u => q = r ∧ en = u) (Wd D cs sa n ad A) A) 0 0 A := by
  refine G_startI cX2_isName 5 [(0, .long x0)] (by decide) rfl (Nat.le_of_ble_eq_true rfl) rfl ?_
  intro p e s m args below meth c Q hC hnm Kr
  have k13 : Cond.constantLong RX2 13 (34359738368) ∈ wsX2_isName := by decide +kernel
  have zi_X10_within : Cond.initialized RX10 ∈ wsX2_isName := by decide +kernel
  have zs_X10_within : Cond.static yX10_within ∈ wsX2_isName := by decide +kernel
  have hL28 : ∀ (fu28 : Nat), ∀ (x0 : Int64) (x2 : Int32) (x3 : Int32) (x4 : Int32), f_X2_isName_L28 fu28 x0 x2 x3 x4 = some q → G p l e ({ frames := 1, cells := 0, slots := 0, locals := 23 } : Room) s m args below meth c D n ad A 5 0 0 Q en 28 [(0, .long x0), (2, .int x2), (3, .int x3), (4, .int x4)] [] := by
    intro fu28
    induction fu28 with
    | zero =>
      intro x0 x2 x3 x4 h
      rw [f_X2_isName_L28] at h
      cases h
    | succ fu28 ih28 =>
      have hB58 : ∀ (x0 : Int64) (x2 : Int32) (x4 : Int32) (s0 : Int32), f_X2_isName_B58 (f_X2_isName_L28 fu28) x0 x2 x4 s0 = some q → G p l e ({ frames := 1, cells := 0, slots := 0, locals := 23 } : Room) s m args below meth c D n ad A 5 0 0 Q en 58 [(0, .long x0), (2, .int x2), (4, .int x4)] [.int s0] := by
        intro x0 x2 x4 s0 h
        unfold f_X2_isName_B58 at h
        refine G_istore_n hC 3 [(3, .int s0), (0, .long x0), (2, .int x2), (4, .int x4)] rfl (by decide) rfl dX2_isName_58 ?_
        refine G_iinc hC 4 3 [(4, .int (x4 + (1 : Int32))), (3, .int s0), (0, .long x0), (2, .int x2)] rfl rfl (by decide) rfl dX2_isName_59 ?_
        refine G_goto hC 28 dX2_isName_62 (by decide) ?_
        refine G_lv [2, 3, 1, 0] rfl ?_
        exact ih28 _ _ _ _ h
      have hB57 : ∀ (x0 : Int64) (x2 : Int32) (x4 : Int32), f_X2_isName_B57 (f_X2_isName_L28 fu28) x0 x2 x4 = some q → G p l e ({ frames := 1, cells := 0, slots := 0, locals := 23 } : Room) s m args below meth c D n ad A 5 0 0 Q en 57 [(0, .long x0), (2, .int x2), (4, .int x4)] [] := by
        intro x0 x2 x4 h
        unfold f_X2_isName_B57 at h
        refine G_iconst hC (v := 0) (by decide) dX2_isName_57 ?_
        refine G_lv [0, 1, 2] rfl ?_
        exact hB58 _ _ _ _ h
      intro x0 x2 x3 x4 h
      rw [f_X2_isName_L28] at h
      refine G_iload hC 4 3 rfl dX2_isName_28 ?_
      refine G_iload_n hC 2 1 rfl rfl dX2_isName_30 ?_
      refine G_icmp_ge hC 65 dX2_isName_31 (by decide) (fun c31 => ?_) (fun c31 => ?_)
      · have h := ifp c31 h
        refine G_iload_n hC 3 2 rfl rfl dX2_isName_65 ?_
        obtain ⟨g66, h⟩ := asr h
        have h := Option.some.inj h
        subst h
        exact Kr _ _ _ _ (nar_b g66) ⟨rfl, rfl⟩ dX2_isName_66
      have h := ifn c31 h
      refine G_iload_n hC 3 2 rfl rfl dX2_isName_34 ?_
      refine G_if_eq hC 57 dX2_isName_35 (by decide) (fun c35 => ?_) (fun c35 => ?_)
      · have h := ifp c35 h
        refine G_lv [0, 1, 3] rfl ?_
        exact hB57 _ _ _ h
      have h := ifn c35 h
      refine G_lload_n hC 0 0 rfl rfl dX2_isName_38 ?_
      refine G_iload hC 4 3 rfl dX2_isName_39 ?_
      obtain ⟨q41, h41, h⟩ := bnd h
      refine G_cSi (st := []) hC _ (c_X2_letterFromEnd  l  h41) (va_cwS 2 hC.hts gX2_isName_X2_letterFromEnd rfl rfl rfl (by decide +kernel) ⟨Nat.le_of_ble_eq_true rfl, Nat.le_of_ble_eq_true rfl⟩) rfl (Nat.le_of_ble_eq_true rfl) (Nat.zero_le _) (Nat.zero_le _) rfl dX2_isName_41 (fun r41 enx hw => ?_)
      obtain ⟨rfl, rfl⟩ := hw
      refine G_iconst hC (v := 1) (by decide) dX2_isName_44 ?_
      refine G_bipush hC (v := 26) (by decide) dX2_isName_45 ?_
      obtain ⟨q47, h47, h⟩ := bnd h
      refine G_cNi (st := []) hC _ (c_X10_within  l  h47) ⟨va_cnB 3 hC.hts gX2_isName_X10_within_n19 rfl rfl rfl (hC.2.2.2.1 ("TongueTip$Names", 19, yX10_within, "TongueTip") (List.mem_of_getElem? (i := 2) rfl)) (hC.hts _ zi_X10_within) (by decide +kernel) ⟨Nat.le_of_ble_eq_true rfl, Nat.le_of_ble_eq_true rfl⟩, hC.hts _ zs_X10_within, trivial⟩ rfl (Nat.le_of_ble_eq_true rfl) (Nat.zero_le _) (Nat.zero_le _) rfl dX2_isName_47 (fun r47 enx hw => ?_)
      obtain ⟨rfl, rfl⟩ := hw
      refine G_if_eq hC 57 dX2_isName_50 (by decide) (fun c50 => ?_) (fun c50 => ?_)
      · have h := ifp c50 h
        refine G_lv [0, 1, 3] rfl ?_
        exact hB57 _ _ _ h
      have h := ifn c50 h
      refine G_iconst hC (v := 1) (by decide) dX2_isName_53 ?_
      refine G_goto hC 58 dX2_isName_54 (by decide) ?_
      refine G_lv [0, 1, 3] rfl ?_
      exact hB58 _ _ _ _ h
  have hB24 : ∀ (x0 : Int64) (x2 : Int32) (s0 : Int32), f_X2_isName_B24 x0 x2 s0 = some q → G p l e ({ frames := 1, cells := 0, slots := 0, locals := 23 } : Room) s m args below meth c D n ad A 5 0 0 Q en 24 [(0, .long x0), (2, .int x2)] [.int s0] := by
    intro x0 x2 s0 h
    unfold f_X2_isName_B24 at h
    refine G_istore_n hC 3 [(3, .int s0), (0, .long x0), (2, .int x2)] rfl (by decide) rfl dX2_isName_24 ?_
    refine G_iconst hC (v := 0) (by decide) dX2_isName_25 ?_
    refine G_istore hC 4 [(4, .int (0 : Int32)), (3, .int s0), (0, .long x0), (2, .int x2)] (by decide) rfl dX2_isName_26 ?_
    refine G_lv [2, 3, 1, 0] rfl ?_
    exact hL28 FU _ _ _ _ h
  have hB23 : ∀ (x0 : Int64) (x2 : Int32), f_X2_isName_B23 x0 x2 = some q → G p l e ({ frames := 1, cells := 0, slots := 0, locals := 23 } : Room) s m args below meth c D n ad A 5 0 0 Q en 23 [(0, .long x0), (2, .int x2)] [] := by
    intro x0 x2 h
    unfold f_X2_isName_B23 at h
    refine G_iconst hC (v := 0) (by decide) dX2_isName_23 ?_
    refine G_lv [0, 1] rfl ?_
    exact hB24 _ _ _ h
  unfold f_X2_isName at h
  refine G_lload_n hC 0 0 rfl rfl dX2_isName_0 ?_
  obtain ⟨q1, h1, h⟩ := bnd h
  refine G_cSi (st := []) hC _ (c_X2_lettersOf  l  h1) (va_cwS 1 hC.hts gX2_isName_X2_lettersOf rfl rfl rfl (by decide +kernel) ⟨Nat.le_of_ble_eq_true rfl, Nat.le_of_ble_eq_true rfl⟩) rfl (Nat.le_of_ble_eq_true rfl) (Nat.zero_le _) (Nat.zero_le _) rfl dX2_isName_1 (fun r1 enx hw => ?_)
  obtain ⟨rfl, rfl⟩ := hw
  refine G_istore_n hC 2 [(2, .int q1), (0, .long x0)] rfl (by decide) rfl dX2_isName_4 ?_
  refine G_lload_n hC 0 1 rfl rfl dX2_isName_5 ?_
  refine G_lconst hC (v := 0) (by decide) dX2_isName_6 ?_
  refine G_lcmp hC dX2_isName_7 ?_
  refine G_if_le hC 23 dX2_isName_8 (by decide) (fun c8 => ?_) (fun c8 => ?_)
  · have h := ifp c8 h
    refine G_lv [1, 0] rfl ?_
    exact hB23 _ _ h
  have h := ifn c8 h
  refine G_lload_n hC 0 1 rfl rfl dX2_isName_11 ?_
  refine G_ldc2 hC (v := (34359738368)) k13 dX2_isName_12 ?_
  refine G_lcmp hC dX2_isName_15 ?_
  refine G_if_ge hC 23 dX2_isName_16 (by decide) (fun c16 => ?_) (fun c16 => ?_)
  · have h := ifp c16 h
    refine G_lv [1, 0] rfl ?_
    exact hB23 _ _ h
  have h := ifn c16 h
  refine G_iconst hC (v := 1) (by decide) dX2_isName_19 ?_
  refine G_goto hC 24 dX2_isName_20 (by decide) ?_
  refine G_lv [1, 0] rfl ?_
  exact hB24 _ _ _ h
def f_X2_firstLetter  (x0 : Int64) : Option (Int32) := Option.bind (f_X2_lettersOf x0) (fun q3 => Option.bind (f_X2_letterFromEnd x0 (imax (0 : Int32) (q3 - (1 : Int32)))) (fun q11 => some (q11 - (1 : Int32))))
set_option maxHeartbeats 4000000 in
set_option maxRecDepth 100000 in
theorem c_X2_firstLetter {D : va_G} {cs : Nat → ClassId} {sa : Nat → Nat} {n : Nat} {ad : Nat → Nat} {A : Nat → Prop} (l : Launch) {en : Nat → va_E}   {x0 : Int64}  {q : Int32}   (h : f_X2_firstLetter x0 = some q) : Met l yX2_firstLetter wsX2_firstLetter { frames := 1, cells := 0, slots := 0, locals := 23 } (va_Pc [.long x0] (Wd D cs sa n ad A en)) (va_Qi (fun r u => q = r ∧ en = u) (Wd D cs sa n ad A) A) 0 0 A := by
  refine G_startI cX2_firstLetter 2 [(0, .long x0)] (by decide) rfl (Nat.le_of_ble_eq_true rfl) rfl ?_
  intro p e s m args below meth c Q hC hnm Kr
  have x27 : Cond.methodLink RX2 27 Lib.Math.max.name ∈ wsX2_firstLetter := by decide +kernel
  have xcmax : Cond.code Lib.Math.max.name Lib.Math.max.code 2 (some .int) ∈ wsX2_firstLetter := by decide +kernel
  have xi : Cond.initialized "java/lang/Math" ∈ wsX2_firstLetter := by decide +kernel
  have xsmax : Cond.static Lib.Math.max.name ∈ wsX2_firstLetter := by decide +kernel
  unfold f_X2_firstLetter at h
  refine G_lload_n hC 0 0 rfl rfl dX2_firstLetter_0 ?_
  refine G_iconst hC (v := 0) (by decide) dX2_firstLetter_1 ?_
  refine G_lload_n hC 0 0 rfl rfl dX2_firstLetter_2 ?_
  obtain ⟨q3, h3, h⟩ := bnd h
  refine G_cSi (st := [.int (0 : Int32), .long x0]) hC _ (c_X2_lettersOf  l  h3) (va_cwS 1 hC.hts gX2_firstLetter_X2_lettersOf rfl rfl rfl (by decide +kernel) ⟨Nat.le_of_ble_eq_true rfl, Nat.le_of_ble_eq_true rfl⟩) rfl (Nat.le_of_ble_eq_true rfl) (Nat.zero_le _) (Nat.zero_le _) rfl dX2_firstLetter_3 (fun r3 enx hw => ?_)
  obtain ⟨rfl, rfl⟩ := hw
  refine G_iconst hC (v := 1) (by decide) dX2_firstLetter_6 ?_
  refine G_isub hC dX2_firstLetter_7 ?_
  refine G_mmax hC x27 xsmax xi xcmax (Nat.le_of_ble_eq_true rfl) (Nat.le_of_ble_eq_true rfl) (Nat.zero_le _) (Nat.zero_le _) dX2_firstLetter_8 ?_
  obtain ⟨q11, h11, h⟩ := bnd h
  refine G_cSi (st := []) hC _ (c_X2_letterFromEnd  l  h11) (va_cwS 2 hC.hts gX2_firstLetter_X2_letterFromEnd rfl rfl rfl (by decide +kernel) ⟨Nat.le_of_ble_eq_true rfl, Nat.le_of_ble_eq_true rfl⟩) rfl (Nat.le_of_ble_eq_true rfl) (Nat.zero_le _) (Nat.zero_le _) rfl dX2_firstLetter_11 (fun r11 enx hw => ?_)
  obtain ⟨rfl, rfl⟩ := hw
  refine G_iconst hC (v := 1) (by decide) dX2_firstLetter_14 ?_
  refine G_isub hC dX2_firstLetter_15 ?_
  have h := Option.some.inj h
  subst h
  exact Kr _ _ _ _ (nar_i _) ⟨rfl, rfl⟩ dX2_firstLetter_16
def f_X2_unlikePlaces_B31  (rL6 : Int64 → Int64 → Int32 → Int32 → Option (Int32)) (x0 : Int64) (x2 : Int64) (x4 : Int32) (x5 : Int32) : Option (Int32) := rL6 x0 x2 x4 (x5 + (1 : Int32))
def f_X2_unlikePlaces_L6   : Nat → Int64 → Int64 → Int32 → Int32 → Option (Int32)
  | 0, _, _, _, _ => none
  | fu + 1, x0, x2, x4, x5 => if (7 : Int32) ≤ x5 then (some x4) else (Option.bind (f_X2_letterFromEnd x0 x5) (fun q16 => Option.bind (f_X2_letterFromEnd x2 x5) (fun q22 => if q16 = q22 then (f_X2_unlikePlaces_B31 (f_X2_unlikePlaces_L6 fu) x0 x2 x4 x5) else (f_X2_unlikePlaces_B31 (f_X2_unlikePlaces_L6 fu) x0 x2 (x4 + (1 : Int32)) x5))))
def f_X2_unlikePlaces  (x0 : Int64) (x2 : Int64) : Option (Int32) := f_X2_unlikePlaces_L6 FU x0 x2 (0 : Int32) (0 : Int32)
set_option maxHeartbeats 4000000 in
set_option maxRecDepth 100000 in
theorem c_X2_unlikePlaces {D : va_G} {cs : Nat → ClassId} {sa : Nat → Nat} {n : Nat} {ad : Nat → Nat} {A : Nat → Prop} (l : Launch) {en : Nat → va_E}   {x0 : Int64} {x2 : Int64}  {q : Int32}   (h : f_X2_unlikePlaces x0 x2 = some q) : Met l yX2_unlikePlaces wsX2_unlikePlaces { frames := 1, cells := 0, slots := 0, locals := 22 } (va_Pc [.long x0, .long x2] (Wd D cs sa n ad A en)) (va_Qi (fun r u => q = r ∧ en = u) (Wd D cs sa n ad A) A) 0 0 A := by
  refine G_startI cX2_unlikePlaces 6 [(0, .long x0), (2, .long x2)] (by decide) rfl (Nat.le_of_ble_eq_true rfl) rfl ?_
  intro p e s m args below meth c Q hC hnm Kr
  have hL6 : ∀ (fu6 : Nat), ∀ (x0 : Int64) (x2 : Int64) (x4 : Int32) (x5 : Int32), f_X2_unlikePlaces_L6 fu6 x0 x2 x4 x5 = some q → G p l e ({ frames := 1, cells := 0, slots := 0, locals := 22 } : Room) s m args below meth c D n ad A 6 0 0 Q en 6 [(0, .long x0), (2, .long x2), (4, .int x4), (5, .int x5)] [] := by
    intro fu6
    induction fu6 with
    | zero =>
      intro x0 x2 x4 x5 h
      rw [f_X2_unlikePlaces_L6] at h
      cases h
    | succ fu6 ih6 =>
      have hB31 : ∀ (x0 : Int64) (x2 : Int64) (x4 : Int32) (x5 : Int32), f_X2_unlikePlaces_B31 (f_X2_unlikePlaces_L6 fu6) x0 x2 x4 x5 = some q → G p l e ({ frames := 1, cells := 0, slots := 0, locals := 22 } : Room) s m args below meth c D n ad A 6 0 0 Q en 31 [(0, .long x0), (2, .long x2), (4, .int x4), (5, .int x5)] [] := by
        intro x0 x2 x4 x5 h
        unfold f_X2_unlikePlaces_B31 at h
        refine G_iinc hC 5 3 [(5, .int (x5 + (1 : Int32))), (0, .long x0), (2, .long x2), (4, .int x4)] rfl rfl (by decide) rfl dX2_unlikePlaces_31 ?_
        refine G_goto hC 6 dX2_unlikePlaces_34 (by decide) ?_
        refine G_lv [1, 2, 3, 0] rfl ?_
        exact ih6 _ _ _ _ h
      intro x0 x2 x4 x5 h
      rw [f_X2_unlikePlaces_L6] at h
      refine G_iload hC 5 3 rfl dX2_unlikePlaces_6 ?_
      refine G_bipush hC (v := 7) (by decide) dX2_unlikePlaces_8 ?_
      refine G_icmp_ge hC 37 dX2_unlikePlaces_10 (by decide) (fun c10 => ?_) (fun c10 => ?_)
      · have h := ifp c10 h
        refine G_iload hC 4 2 rfl dX2_unlikePlaces_37 ?_
        have h := Option.some.inj h
        subst h
        exact Kr _ _ _ _ (nar_i _) ⟨rfl, rfl⟩ dX2_unlikePlaces_39
      have h := ifn c10 h
      refine G_lload_n hC 0 0 rfl rfl dX2_unlikePlaces_13 ?_
      refine G_iload hC 5 3 rfl dX2_unlikePlaces_14 ?_
      obtain ⟨q16, h16, h⟩ := bnd h
      refine G_cSi (st := []) hC _ (c_X2_letterFromEnd  l  h16) (va_cwS 2 hC.hts gX2_unlikePlaces_X2_letterFromEnd rfl rfl rfl (by decide +kernel) ⟨Nat.le_of_ble_eq_true rfl, Nat.le_of_ble_eq_true rfl⟩) rfl (Nat.le_of_ble_eq_true rfl) (Nat.zero_le _) (Nat.zero_le _) rfl dX2_unlikePlaces_16 (fun r16 enx hw => ?_)
      obtain ⟨rfl, rfl⟩ := hw
      refine G_lload_n hC 2 1 rfl rfl dX2_unlikePlaces_19 ?_
      refine G_iload hC 5 3 rfl dX2_unlikePlaces_20 ?_
      obtain ⟨q22, h22, h⟩ := bnd h
      refine G_cSi (st := [.int q16]) hC _ (c_X2_letterFromEnd  l  h22) (va_cwS 2 hC.hts gX2_unlikePlaces_X2_letterFromEnd rfl rfl rfl (by decide +kernel) ⟨Nat.le_of_ble_eq_true rfl, Nat.le_of_ble_eq_true rfl⟩) rfl (Nat.le_of_ble_eq_true rfl) (Nat.zero_le _) (Nat.zero_le _) rfl dX2_unlikePlaces_22 (fun r22 enx hw => ?_)
      obtain ⟨rfl, rfl⟩ := hw
      refine G_icmp_eq hC 31 dX2_unlikePlaces_25 (by decide) (fun c25 => ?_) (fun c25 => ?_)
      · have h := ifp c25 h
        refine G_lv [0, 1, 2, 3] rfl ?_
        exact hB31 _ _ _ _ h
      have h := ifn c25 h
      refine G_iinc hC 4 2 [(4, .int (x4 + (1 : Int32))), (0, .long x0), (2, .long x2), (5, .int x5)] rfl rfl (by decide) rfl dX2_unlikePlaces_28 ?_
      refine G_lv [1, 2, 0, 3] rfl ?_
      exact hB31 _ _ _ _ h
  unfold f_X2_unlikePlaces at h
  refine G_iconst hC (v := 0) (by decide) dX2_unlikePlaces_0 ?_
  refine G_istore hC 4 [(4, .int (0 : Int32)), (0, .long x0), (2, .long x2)] (by decide) rfl dX2_unlikePlaces_1 ?_
  refine G_iconst hC (v := 0) (by decide) dX2_unlikePlaces_3 ?_
  refine G_istore hC 5 [(5, .int (0 : Int32)), (4, .int (0 : Int32)), (0, .long x0), (2, .long x2)] (by decide) rfl dX2_unlikePlaces_4 ?_
  refine G_lv [2, 3, 1, 0] rfl ?_
  exact hL6 FU _ _ _ _ h
def f_X0_cost  (x0 : Int32) (x1 : Int32) (x2 : Int32) : Option (Int32) := if x0 = 0 then (if x1 = 0 then (some ((10 : Int32) * ((20 : Int32) - x2))) else (some (0 : Int32))) else (some ((4 : Int32) * x2))
set_option maxHeartbeats 4000000 in
set_option maxRecDepth 100000 in
theorem c_X0_cost {D : va_G} {cs : Nat → ClassId} {sa : Nat → Nat} {n : Nat} {ad : Nat → Nat} {A : Nat → Prop} (l : Launch) {en : Nat → va_E}   {x0 : Int32} {x1 : Int32} {x2 : Int32}  {q : Int32}   (h : f_X0_cost x0 x1 x2 = some q) : Met l yX0_cost wsX0_cost { frames := 0, cells := 0, slots := 0, locals := 0 } (va_Pc [.int x0, .int x1, .int x2] (Wd D cs sa n ad A en)) (va_Qi (fun r u => q = r ∧ en = u) (Wd D cs sa n ad A) A) 0 0 A := by
  refine G_startI cX0_cost 3 [(0, .int x0), (1, .int x1), (2, .int x2)] (by decide) rfl (Nat.le_of_ble_eq_true rfl) rfl ?_
  intro p e s m args below meth c Q hC hnm Kr
  unfold f_X0_cost at h
  refine G_iload_n hC 0 0 rfl rfl dX0_cost_0 ?_
  refine G_if_eq hC 8 dX0_cost_1 (by decide) (fun c1 => ?_) (fun c1 => ?_)
  · have h := ifp c1 h
    refine G_iload_n hC 1 1 rfl rfl dX0_cost_8 ?_
    refine G_if_eq hC 16 dX0_cost_9 (by decide) (fun c9 => ?_) (fun c9 => ?_)
    · have h := ifp c9 h
      refine G_bipush hC (v := 10) (by decide) dX0_cost_16 ?_
      refine G_bipush hC (v := 20) (by decide) dX0_cost_18 ?_
      refine G_iload_n hC 2 2 rfl rfl dX0_cost_20 ?_
      refine G_isub hC dX0_cost_21 ?_
      refine G_imul hC dX0_cost_22 ?_
      have h := Option.some.inj h
      subst h
      exact Kr _ _ _ _ (nar_i _) ⟨rfl, rfl⟩ dX0_cost_23
    have h := ifn c9 h
    refine G_iconst hC (v := 0) (by decide) dX0_cost_12 ?_
    refine G_goto hC 23 dX0_cost_13 (by decide) ?_
    have h := Option.some.inj h
    subst h
    exact Kr _ _ _ _ (nar_i _) ⟨rfl, rfl⟩ dX0_cost_23
  have h := ifn c1 h
  refine G_iconst hC (v := 4) (by decide) dX0_cost_4 ?_
  refine G_iload_n hC 2 2 rfl rfl dX0_cost_5 ?_
  refine G_imul hC dX0_cost_6 ?_
  have h := Option.some.inj h
  subst h
  exact Kr _ _ _ _ (nar_i _) ⟨rfl, rfl⟩ dX0_cost_7
def f_X0_restBits_B123  (rL4 : Int32 → Int32 → Int32 → Int32 → Option (Int32)) (x0 : Int32) (x1 : Int32) (x3 : Int32) (s0 : Int32) (s1 : Int32) : Option (Int32) := rL4 x0 x1 (s0 ||| s1) (x3 + (1 : Int32))
def f_X0_restBits_B122  (rL4 : Int32 → Int32 → Int32 → Int32 → Option (Int32)) (x0 : Int32) (x1 : Int32) (x3 : Int32) (s0 : Int32) : Option (Int32) := f_X0_restBits_B123 rL4 x0 x1 x3 s0 (0 : Int32)
def f_X0_restBits_B103  (rL4 : Int32 → Int32 → Int32 → Int32 → Option (Int32)) (x0 : Int32) (x1 : Int32) (x2 : Int32) (x3 : Int32) (x6 : Int32) (s0 : Int32) : Option (Int32) := if x6 = 0 then (f_X0_restBits_B122 rL4 x0 x1 x3 x2) else (if s0 = 0 then (f_X0_restBits_B122 rL4 x0 x1 x3 x2) else (f_X0_restBits_B123 rL4 x0 x1 x3 x2 ((1 : Int32) <<< (x3 &&& (31 : Int32)))))
def f_X0_restBits_B89  (rL4 : Int32 → Int32 → Int32 → Int32 → Option (Int32)) (x0 : Int32) (x1 : Int32) (x2 : Int32) (x3 : Int32) (x4 : Int32) (x6 : Int32) (s0 : Int32) (s1 : Int32) : Option (Int32) := Option.bind (f_X0_cost s1 x4 x0) (fun q92 => if q92 < s0 then (f_X0_restBits_B103 rL4 x0 x1 x2 x3 x6 (0 : Int32)) else (f_X0_restBits_B103 rL4 x0 x1 x2 x3 x6 (1 : Int32)))
def f_X0_restBits_B69  (rL4 : Int32 → Int32 → Int32 → Int32 → Option (Int32)) (x0 : Int32) (x1 : Int32) (x2 : Int32) (x3 : Int32) (x4 : Int32) (x5 : Int32) (s0 : Int32) : Option (Int32) := Option.bind (f_X0_cost x5 x4 x0) (fun q76 => if x5 = 0 then (f_X0_restBits_B89 rL4 x0 x1 x2 x3 x4 s0 q76 (1 : Int32)) else (f_X0_restBits_B89 rL4 x0 x1 x2 x3 x4 s0 q76 (0 : Int32)))
def f_X0_restBits_B55  (rL4 : Int32 → Int32 → Int32 → Int32 → Option (Int32)) (x0 : Int32) (x1 : Int32) (x2 : Int32) (x3 : Int32) (x4 : Int32) (x5 : Int32) (s0 : Int32) (s1 : Int32) : Option (Int32) := Option.bind (f_X0_cost s1 x5 x1) (fun q58 => if q58 < s0 then (f_X0_restBits_B69 rL4 x0 x1 x2 x3 x4 x5 (0 : Int32)) else (f_X0_restBits_B69 rL4 x0 x1 x2 x3 x4 x5 (1 : Int32)))
def f_X0_restBits_B35  (rL4 : Int32 → Int32 → Int32 → Int32 → Option (Int32)) (x0 : Int32) (x1 : Int32) (x2 : Int32) (x3 : Int32) (x4 : Int32) (s0 : Int32) : Option (Int32) := Option.bind (f_X0_cost x4 s0 x1) (fun q42 => if x4 = 0 then (f_X0_restBits_B55 rL4 x0 x1 x2 x3 x4 s0 q42 (1 : Int32)) else (f_X0_restBits_B55 rL4 x0 x1 x2 x3 x4 s0 q42 (0 : Int32)))
def f_X0_restBits_B30  (rL4 : Int32 → Int32 → Int32 → Int32 → Option (Int32)) (x0 : Int32) (x1 : Int32) (x2 : Int32) (x3 : Int32) (x4 : Int32) : Option (Int32) := f_X0_restBits_B35 rL4 x0 x1 x2 x3 x4 (1 : Int32)
def f_X0_restBits_B19  (rL4 : Int32 → Int32 → Int32 → Int32 → Option (Int32)) (x0 : Int32) (x1 : Int32) (x2 : Int32) (x3 : Int32) (s0 : Int32) : Option (Int32) := if x3 = 0 then (f_X0_restBits_B30 rL4 x0 x1 x2 x3 s0) else (if x3 = (2 : Int32) then (f_X0_restBits_B30 rL4 x0 x1 x2 x3 s0) else (f_X0_restBits_B35 rL4 x0 x1 x2 x3 s0 (0 : Int32)))
def f_X0_restBits_L4   : Nat → Int32 → Int32 → Int32 → Int32 → Option (Int32)
  | 0, _, _, _, _ => none
  | fu + 1, x0, x1, x2, x3 => if (4 : Int32) ≤ x3 then (some x2) else (if (1 : Int32) < x3 then (f_X0_restBits_B19 (f_X0_restBits_L4 fu) x0 x1 x2 x3 (0 : Int32)) else (f_X0_restBits_B19 (f_X0_restBits_L4 fu) x0 x1 x2 x3 (1 : Int32)))
def f_X0_restBits  (x0 : Int32) (x1 : Int32) : Option (Int32) := f_X0_restBits_L4 FU x0 x1 (0 : Int32) (0 : Int32)
set_option maxHeartbeats 4000000 in
set_option maxRecDepth 100000 in
theorem c_X0_restBits {D : va_G} {cs : Nat → ClassId} {sa : Nat → Nat} {n : Nat} {ad : Nat → Nat} {A : Nat → Prop} (l : Launch) {en : Nat → va_E}   {x0 : Int32} {x1 : Int32}  {q : Int32}   (h : f_X0_restBits x0 x1 = some q) : Met l yX0_restBits wsX0_restBits { frames := 1, cells := 0, slots := 0, locals := 22 } (va_Pc [.int x0, .int x1] (Wd D cs sa n ad A en)) (va_Qi (fun r u => q = r ∧ en = u) (Wd D cs sa n ad A) A) 0 0 A := by
  refine G_startI cX0_restBits 8 [(0, .int x0), (1, .int x1)] (by decide) rfl (Nat.le_of_ble_eq_true rfl) rfl ?_
  intro p e s m args below meth c Q hC hnm Kr
  have hL4 : ∀ (fu4 : Nat), ∀ (x0 : Int32) (x1 : Int32) (x2 : Int32) (x3 : Int32), f_X0_restBits_L4 fu4 x0 x1 x2 x3 = some q → G p l e ({ frames := 1, cells := 0, slots := 0, locals := 22 } : Room) s m args below meth c D n ad A 8 0 0 Q en 4 [(0, .int x0), (1, .int x1), (2, .int x2), (3, .int x3)] [] := by
    intro fu4
    induction fu4 with
    | zero =>
      intro x0 x1 x2 x3 h
      rw [f_X0_restBits_L4] at h
      cases h
    | succ fu4 ih4 =>
      have hB123 : ∀ (x0 : Int32) (x1 : Int32) (x3 : Int32) (s0 : Int32) (s1 : Int32), f_X0_restBits_B123 (f_X0_restBits_L4 fu4) x0 x1 x3 s0 s1 = some q → G p l e ({ frames := 1, cells := 0, slots := 0, locals := 22 } : Room) s m args below meth c D n ad A 8 0 0 Q en 123 [(0, .int x0), (1, .int x1), (3, .int x3)] [.int s1, .int s0] := by
        intro x0 x1 x3 s0 s1 h
        unfold f_X0_restBits_B123 at h
        refine G_ior hC dX0_restBits_123 ?_
        refine G_istore_n hC 2 [(2, .int (s0 ||| s1)), (0, .int x0), (1, .int x1), (3, .int x3)] rfl (by decide) rfl dX0_restBits_124 ?_
        refine G_iinc hC 3 3 [(3, .int (x3 + (1 : Int32))), (2, .int (s0 ||| s1)), (0, .int x0), (1, .int x1)] rfl rfl (by decide) rfl dX0_restBits_125 ?_
        refine G_goto hC 4 dX0_restBits_128 (by decide) ?_
        refine G_lv [2, 3, 1, 0] rfl ?_
        exact ih4 _ _ _ _ h
      have hB122 : ∀ (x0 : Int32) (x1 : Int32) (x3 : Int32) (s0 : Int32), f_X0_restBits_B122 (f_X0_restBits_L4 fu4) x0 x1 x3 s0 = some q → G p l e ({ frames := 1, cells := 0, slots := 0, locals := 22 } : Room) s m args below meth c D n ad A 8 0 0 Q en 122 [(0, .int x0), (1, .int x1), (3, .int x3)] [.int s0] := by
        intro x0 x1 x3 s0 h
        unfold f_X0_restBits_B122 at h
        refine G_iconst hC (v := 0) (by decide) dX0_restBits_122 ?_
        refine G_lv [0, 1, 2] rfl ?_
        exact hB123 _ _ _ _ _ h
      have hB103 : ∀ (x0 : Int32) (x1 : Int32) (x2 : Int32) (x3 : Int32) (x6 : Int32) (s0 : Int32), f_X0_restBits_B103 (f_X0_restBits_L4 fu4) x0 x1 x2 x3 x6 s0 = some q → G p l e ({ frames := 1, cells := 0, slots := 0, locals := 22 } : Room) s m args below meth c D n ad A 8 0 0 Q en 103 [(0, .int x0), (1, .int x1), (2, .int x2), (3, .int x3), (6, .int x6)] [.int s0] := by
        intro x0 x1 x2 x3 x6 s0 h
        unfold f_X0_restBits_B103 at h
        refine G_istore hC 7 [(7, .int s0), (0, .int x0), (1, .int x1), (2, .int x2), (3, .int x3), (6, .int x6)] (by decide) rfl dX0_restBits_103 ?_
        refine G_iload_n hC 2 3 rfl rfl dX0_restBits_105 ?_
        refine G_iload hC 6 5 rfl dX0_restBits_106 ?_
        refine G_if_eq hC 122 dX0_restBits_108 (by decide) (fun c108 => ?_) (fun c108 => ?_)
        · have h := ifp c108 h
          refine G_lv [1, 2, 4] rfl ?_
          exact hB122 _ _ _ _ h
        have h := ifn c108 h
        refine G_iload hC 7 0 rfl dX0_restBits_111 ?_
        refine G_if_eq hC 122 dX0_restBits_113 (by decide) (fun c113 => ?_) (fun c113 => ?_)
        · have h := ifp c113 h
          refine G_lv [1, 2, 4] rfl ?_
          exact hB122 _ _ _ _ h
        have h := ifn c113 h
        refine G_iconst hC (v := 1) (by decide) dX0_restBits_116 ?_
        refine G_iload_n hC 3 4 rfl rfl dX0_restBits_117 ?_
        refine G_ishl hC dX0_restBits_118 ?_
        refine G_goto hC 123 dX0_restBits_119 (by decide) ?_
        refine G_lv [1, 2, 4] rfl ?_
        exact hB123 _ _ _ _ _ h
      have hB89 : ∀ (x0 : Int32) (x1 : Int32) (x2 : Int32) (x3 : Int32) (x4 : Int32) (x6 : Int32) (s0 : Int32) (s1 : Int32), f_X0_restBits_B89 (f_X0_restBits_L4 fu4) x0 x1 x2 x3 x4 x6 s0 s1 = some q → G p l e ({ frames := 1, cells := 0, slots := 0, locals := 22 } : Room) s m args below meth c D n ad A 8 0 0 Q en 89 [(0, .int x0), (1, .int x1), (2, .int x2), (3, .int x3), (4, .int x4), (6, .int x6)] [.int s1, .int s0] := by
        intro x0 x1 x2 x3 x4 x6 s0 s1 h
        unfold f_X0_restBits_B89 at h
        refine G_iload hC 4 4 rfl dX0_restBits_89 ?_
        refine G_iload_n hC 0 0 rfl rfl dX0_restBits_91 ?_
        obtain ⟨q92, h92, h⟩ := bnd h
        refine G_cSi (st := [.int s0]) hC _ (c_X0_cost  l  h92) (va_cwS 3 hC.hts gX0_restBits_X0_cost rfl rfl rfl (by decide +kernel) ⟨Nat.le_of_ble_eq_true rfl, Nat.le_of_ble_eq_true rfl⟩) rfl (Nat.le_of_ble_eq_true rfl) (Nat.zero_le _) (Nat.zero_le _) rfl dX0_restBits_92 (fun r92 enx hw => ?_)
        obtain ⟨rfl, rfl⟩ := hw
        refine G_icmp_gt hC 102 dX0_restBits_95 (by decide) (fun c95 => ?_) (fun c95 => ?_)
        · have h := ifp c95 h
          refine G_iconst hC (v := 0) (by decide) dX0_restBits_102 ?_
          refine G_lv [0, 1, 2, 3, 5] rfl ?_
          exact hB103 _ _ _ _ _ _ h
        have h := ifn c95 h
        refine G_iconst hC (v := 1) (by decide) dX0_restBits_98 ?_
        refine G_goto hC 103 dX0_restBits_99 (by decide) ?_
        refine G_lv [0, 1, 2, 3, 5] rfl ?_
        exact hB103 _ _ _ _ _ _ h
      have hB69 : ∀ (x0 : Int32) (x1 : Int32) (x2 : Int32) (x3 : Int32) (x4 : Int32) (x5 : Int32) (s0 : Int32), f_X0_restBits_B69 (f_X0_restBits_L4 fu4) x0 x1 x2 x3 x4 x5 s0 = some q → G p l e ({ frames := 1, cells := 0, slots := 0, locals := 22 } : Room) s m args below meth c D n ad A 8 0 0 Q en 69 [(0, .int x0), (1, .int x1), (2, .int x2), (3, .int x3), (4, .int x4), (5, .int x5)] [.int s0] := by
        intro x0 x1 x2 x3 x4 x5 s0 h
        unfold f_X0_restBits_B69 at h
        refine G_istore hC 6 [(6, .int s0), (0, .int x0), (1, .int x1), (2, .int x2), (3, .int x3), (4, .int x4), (5, .int x5)] (by decide) rfl dX0_restBits_69 ?_
        refine G_iload hC 5 6 rfl dX0_restBits_71 ?_
        refine G_iload hC 4 5 rfl dX0_restBits_73 ?_
        refine G_iload_n hC 0 1 rfl rfl dX0_restBits_75 ?_
        obtain ⟨q76, h76, h⟩ := bnd h
        refine G_cSi (st := []) hC _ (c_X0_cost  l  h76) (va_cwS 3 hC.hts gX0_restBits_X0_cost rfl rfl rfl (by decide +kernel) ⟨Nat.le_of_ble_eq_true rfl, Nat.le_of_ble_eq_true rfl⟩) rfl (Nat.le_of_ble_eq_true rfl) (Nat.zero_le _) (Nat.zero_le _) rfl dX0_restBits_76 (fun r76 enx hw => ?_)
        obtain ⟨rfl, rfl⟩ := hw
        refine G_iload hC 5 6 rfl dX0_restBits_79 ?_
        refine G_if_ne hC 88 dX0_restBits_81 (by decide) (fun c81 => ?_) (fun c81 => ?_)
        · have h := ifn c81 h
          refine G_iconst hC (v := 0) (by decide) dX0_restBits_88 ?_
          refine G_lv [1, 2, 3, 4, 5, 0] rfl ?_
          exact hB89 _ _ _ _ _ _ _ _ h
        have h := ifp c81 h
        refine G_iconst hC (v := 1) (by decide) dX0_restBits_84 ?_
        refine G_goto hC 89 dX0_restBits_85 (by decide) ?_
        refine G_lv [1, 2, 3, 4, 5, 0] rfl ?_
        exact hB89 _ _ _ _ _ _ _ _ h
      have hB55 : ∀ (x0 : Int32) (x1 : Int32) (x2 : Int32) (x3 : Int32) (x4 : Int32) (x5 : Int32) (s0 : Int32) (s1 : Int32), f_X0_restBits_B55 (f_X0_restBits_L4 fu4) x0 x1 x2 x3 x4 x5 s0 s1 = some q → G p l e ({ frames := 1, cells := 0, slots := 0, locals := 22 } : Room) s m args below meth c D n ad A 8 0 0 Q en 55 [(0, .int x0), (1, .int x1), (2, .int x2), (3, .int x3), (4, .int x4), (5, .int x5)] [.int s1, .int s0] := by
        intro x0 x1 x2 x3 x4 x5 s0 s1 h
        unfold f_X0_restBits_B55 at h
        refine G_iload hC 5 5 rfl dX0_restBits_55 ?_
        refine G_iload_n hC 1 1 rfl rfl dX0_restBits_57 ?_
        obtain ⟨q58, h58, h⟩ := bnd h
        refine G_cSi (st := [.int s0]) hC _ (c_X0_cost  l  h58) (va_cwS 3 hC.hts gX0_restBits_X0_cost rfl rfl rfl (by decide +kernel) ⟨Nat.le_of_ble_eq_true rfl, Nat.le_of_ble_eq_true rfl⟩) rfl (Nat.le_of_ble_eq_true rfl) (Nat.zero_le _) (Nat.zero_le _) rfl dX0_restBits_58 (fun r58 enx hw => ?_)
        obtain ⟨rfl, rfl⟩ := hw
        refine G_icmp_gt hC 68 dX0_restBits_61 (by decide) (fun c61 => ?_) (fun c61 => ?_)
        · have h := ifp c61 h
          refine G_iconst hC (v := 0) (by decide) dX0_restBits_68 ?_
          refine G_lv [0, 1, 2, 3, 4, 5] rfl ?_
          exact hB69 _ _ _ _ _ _ _ h
        have h := ifn c61 h
        refine G_iconst hC (v := 1) (by decide) dX0_restBits_64 ?_
        refine G_goto hC 69 dX0_restBits_65 (by decide) ?_
        refine G_lv [0, 1, 2, 3, 4, 5] rfl ?_
        exact hB69 _ _ _ _ _ _ _ h
      have hB35 : ∀ (x0 : Int32) (x1 : Int32) (x2 : Int32) (x3 : Int32) (x4 : Int32) (s0 : Int32), f_X0_restBits_B35 (f_X0_restBits_L4 fu4) x0 x1 x2 x3 x4 s0 = some q → G p l e ({ frames := 1, cells := 0, slots := 0, locals := 22 } : Room) s m args below meth c D n ad A 8 0 0 Q en 35 [(0, .int x0), (1, .int x1), (2, .int x2), (3, .int x3), (4, .int x4)] [.int s0] := by
        intro x0 x1 x2 x3 x4 s0 h
        unfold f_X0_restBits_B35 at h
        refine G_istore hC 5 [(5, .int s0), (0, .int x0), (1, .int x1), (2, .int x2), (3, .int x3), (4, .int x4)] (by decide) rfl dX0_restBits_35 ?_
        refine G_iload hC 4 5 rfl dX0_restBits_37 ?_
        refine G_iload hC 5 0 rfl dX0_restBits_39 ?_
        refine G_iload_n hC 1 2 rfl rfl dX0_restBits_41 ?_
        obtain ⟨q42, h42, h⟩ := bnd h
        refine G_cSi (st := []) hC _ (c_X0_cost  l  h42) (va_cwS 3 hC.hts gX0_restBits_X0_cost rfl rfl rfl (by decide +kernel) ⟨Nat.le_of_ble_eq_true rfl, Nat.le_of_ble_eq_true rfl⟩) rfl (Nat.le_of_ble_eq_true rfl) (Nat.zero_le _) (Nat.zero_le _) rfl dX0_restBits_42 (fun r42 enx hw => ?_)
        obtain ⟨rfl, rfl⟩ := hw
        refine G_iload hC 4 5 rfl dX0_restBits_45 ?_
        refine G_if_ne hC 54 dX0_restBits_47 (by decide) (fun c47 => ?_) (fun c47 => ?_)
        · have h := ifn c47 h
          refine G_iconst hC (v := 0) (by decide) dX0_restBits_54 ?_
          refine G_lv [1, 2, 3, 4, 5, 0] rfl ?_
          exact hB55 _ _ _ _ _ _ _ _ h
        have h := ifp c47 h
        refine G_iconst hC (v := 1) (by decide) dX0_restBits_50 ?_
        refine G_goto hC 55 dX0_restBits_51 (by decide) ?_
        refine G_lv [1, 2, 3, 4, 5, 0] rfl ?_
        exact hB55 _ _ _ _ _ _ _ _ h
      have hB30 : ∀ (x0 : Int32) (x1 : Int32) (x2 : Int32) (x3 : Int32) (x4 : Int32), f_X0_restBits_B30 (f_X0_restBits_L4 fu4) x0 x1 x2 x3 x4 = some q → G p l e ({ frames := 1, cells := 0, slots := 0, locals := 22 } : Room) s m args below meth c D n ad A 8 0 0 Q en 30 [(0, .int x0), (1, .int x1), (2, .int x2), (3, .int x3), (4, .int x4)] [] := by
        intro x0 x1 x2 x3 x4 h
        unfold f_X0_restBits_B30 at h
        refine G_iconst hC (v := 1) (by decide) dX0_restBits_30 ?_
        refine G_goto hC 35 dX0_restBits_31 (by decide) ?_
        refine G_lv [0, 1, 2, 3, 4] rfl ?_
        exact hB35 _ _ _ _ _ _ h
      have hB19 : ∀ (x0 : Int32) (x1 : Int32) (x2 : Int32) (x3 : Int32) (s0 : Int32), f_X0_restBits_B19 (f_X0_restBits_L4 fu4) x0 x1 x2 x3 s0 = some q → G p l e ({ frames := 1, cells := 0, slots := 0, locals := 22 } : Room) s m args below meth c D n ad A 8 0 0 Q en 19 [(0, .int x0), (1, .int x1), (2, .int x2), (3, .int x3)] [.int s0] := by
        intro x0 x1 x2 x3 s0 h
        unfold f_X0_restBits_B19 at h
        refine G_istore hC 4 [(4, .int s0), (0, .int x0), (1, .int x1), (2, .int x2), (3, .int x3)] (by decide) rfl dX0_restBits_19 ?_
        refine G_iload_n hC 3 4 rfl rfl dX0_restBits_21 ?_
        refine G_if_eq hC 30 dX0_restBits_22 (by decide) (fun c22 => ?_) (fun c22 => ?_)
        · have h := ifp c22 h
          refine G_lv [1, 2, 3, 4, 0] rfl ?_
          exact hB30 _ _ _ _ _ h
        have h := ifn c22 h
        refine G_iload_n hC 3 4 rfl rfl dX0_restBits_25 ?_
        refine G_iconst hC (v := 2) (by decide) dX0_restBits_26 ?_
        refine G_icmp_ne hC 34 dX0_restBits_27 (by decide) (fun c27 => ?_) (fun c27 => ?_)
        · have h := ifn c27 h
          refine G_iconst hC (v := 0) (by decide) dX0_restBits_34 ?_
          refine G_lv [1, 2, 3, 4, 0] rfl ?_
          exact hB35 _ _ _ _ _ _ h
        have h := ifp c27 h
        refine G_lv [1, 2, 3, 4, 0] rfl ?_
        exact hB30 _ _ _ _ _ h
      intro x0 x1 x2 x3 h
      rw [f_X0_restBits_L4] at h
      refine G_iload_n hC 3 3 rfl rfl dX0_restBits_4 ?_
      refine G_iconst hC (v := 4) (by decide) dX0_restBits_5 ?_
      refine G_icmp_ge hC 131 dX0_restBits_6 (by decide) (fun c6 => ?_) (fun c6 => ?_)
      · have h := ifp c6 h
        refine G_iload_n hC 2 2 rfl rfl dX0_restBits_131 ?_
        have h := Option.some.inj h
        subst h
        exact Kr _ _ _ _ (nar_i _) ⟨rfl, rfl⟩ dX0_restBits_132
      have h := ifn c6 h
      refine G_iload_n hC 3 3 rfl rfl dX0_restBits_9 ?_
      refine G_iconst hC (v := 1) (by decide) dX0_restBits_10 ?_
      refine G_icmp_gt hC 18 dX0_restBits_11 (by decide) (fun c11 => ?_) (fun c11 => ?_)
      · have h := ifp c11 h
        refine G_iconst hC (v := 0) (by decide) dX0_restBits_18 ?_
        refine G_lv [0, 1, 2, 3] rfl ?_
        exact hB19 _ _ _ _ _ h
      have h := ifn c11 h
      refine G_iconst hC (v := 1) (by decide) dX0_restBits_14 ?_
      refine G_goto hC 19 dX0_restBits_15 (by decide) ?_
      refine G_lv [0, 1, 2, 3] rfl ?_
      exact hB19 _ _ _ _ _ h
  unfold f_X0_restBits at h
  refine G_iconst hC (v := 0) (by decide) dX0_restBits_0 ?_
  refine G_istore_n hC 2 [(2, .int (0 : Int32)), (0, .int x0), (1, .int x1)] rfl (by decide) rfl dX0_restBits_1 ?_
  refine G_iconst hC (v := 0) (by decide) dX0_restBits_2 ?_
  refine G_istore_n hC 3 [(3, .int (0 : Int32)), (2, .int (0 : Int32)), (0, .int x0), (1, .int x1)] rfl (by decide) rfl dX0_restBits_3 ?_
  refine G_lv [2, 3, 1, 0] rfl ?_
  exact hL4 FU _ _ _ _ h
