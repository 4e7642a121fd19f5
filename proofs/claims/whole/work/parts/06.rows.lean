def f_X7_seconds (rsecs : Int32)  : Option (Int32) := some rsecs
set_option maxHeartbeats 4000000 in
set_option maxRecDepth 100000 in
theorem c_X7_seconds {D : va_G} {cs : Nat → ClassId} {sa : Nat → Nat} {n : Nat} {ad : Nat → Nat} {A : Nat → Prop} (l : Launch) {en : Nat → va_E}  {rheld : Int32} {rsecs : Int32} {rhelp : Int32} {rna : Int32} {rout : Int32} {rmiss : Int64}   {q : Int32} (hn : 110 ≤ n) (e_rowso : en 96 = .inr (4, [.ref (ad 97), .int rheld, .int rsecs, .int rhelp, .int rna, .int rout, .long rmiss])) (h : f_X7_seconds rsecs = some q) : Met l yX7_seconds wsX7_seconds { frames := 0, cells := 0, slots := 0, locals := 0 } (va_Pc [.ref (ad 96)] (Wd D cs sa n ad A en)) (va_Qi (fun r u => q = r ∧ en = u) (Wd D cs sa n ad A) A) 0 0 A := by
  refine G_startI cX7_seconds 1 [(0, .ref (ad 96))] (by decide) rfl (Nat.le_of_ble_eq_true rfl) rfl ?_
  intro p e s m args below meth c Q hC hnm Kr
  have inX7 : ∀ w ∈ u_ws RX7 TX7 7, w ∈ wsX7_seconds := by decide +kernel
  have m17 : Cond.fieldLink RX7 17 "TongueTip$Rows" "seconds" "I" ∈ wsX7_seconds := by decide +kernel
  unfold f_X7_seconds at h
  refine G_aload_n hC 0 0 rfl rfl dX7_seconds_0 ?_
  refine G_get hC inX7 96 (by omega) (v := .int rsecs) e_rowso rfl 2 (by decide) m17 rfl rfl dX7_seconds_1 ?_
  have h := Option.some.inj h
  subst h
  exact Kr _ _ _ _ (nar_i _) ⟨rfl, rfl⟩ dX7_seconds_4
def f_X7_brings (rmiss : Int64)  : Option (Int64) := some ((10240000000000 : Int64) - rmiss)
set_option maxHeartbeats 4000000 in
set_option maxRecDepth 100000 in
theorem c_X7_brings {D : va_G} {cs : Nat → ClassId} {sa : Nat → Nat} {n : Nat} {ad : Nat → Nat} {A : Nat → Prop} (l : Launch) {en : Nat → va_E}  {rheld : Int32} {rsecs : Int32} {rhelp : Int32} {rna : Int32} {rout : Int32} {rmiss : Int64}   {q : Int64} (hn : 110 ≤ n) (e_rowso : en 96 = .inr (4, [.ref (ad 97), .int rheld, .int rsecs, .int rhelp, .int rna, .int rout, .long rmiss])) (h : f_X7_brings rmiss = some q) : Met l yX7_brings wsX7_brings { frames := 0, cells := 0, slots := 0, locals := 0 } (va_Pc [.ref (ad 96)] (Wd D cs sa n ad A en)) (va_Ql (fun r u => q = r ∧ en = u) (Wd D cs sa n ad A) A) 0 0 A := by
  refine G_startL cX7_brings 1 [(0, .ref (ad 96))] (by decide) rfl (Nat.le_of_ble_eq_true rfl) rfl ?_
  intro p e s m args below meth c Q hC hnm Kr
  have inX7 : ∀ w ∈ u_ws RX7 TX7 7, w ∈ wsX7_brings := by decide +kernel
  have k21 : Cond.constantLong RX7 21 (10240000000000) ∈ wsX7_brings := by decide +kernel
  have m23 : Cond.fieldLink RX7 23 "TongueTip$Rows" "missing" "J" ∈ wsX7_brings := by decide +kernel
  unfold f_X7_brings at h
  refine G_ldc2 hC (v := (10240000000000)) k21 dX7_brings_0 ?_
  refine G_aload_n hC 0 0 rfl rfl dX7_brings_3 ?_
  refine G_get hC inX7 96 (by omega) (v := .long rmiss) e_rowso rfl 6 (by decide) m23 rfl rfl dX7_brings_4 ?_
  refine G_lsub hC dX7_brings_7 ?_
  have h := Option.some.inj h
  subst h
  exact Kr _ _ _ _ ⟨rfl, rfl⟩ dX7_brings_8
def f_X7_chance_B86 (now : HallV) (rheld : Int32) (rhelp : Int32)  (x6 : Int32) (s0 : Int32) : Option (Int32) := if s0 = 0 then (some (x6 / (2 : Int32))) else (some x6)
def f_X7_chance (now : HallV) (rheld : Int32) (rhelp : Int32) (x2 : Int32) (x3 : Int32) (x4 : Int32) : Option (Int32) := Option.bind (f_X8_number (3 : Int32) 15 (now.2.1 1) x3 (2 : Int32)) (fun q8 => if x4 = (2 : Int32) then (Option.bind (f_X8_number (7 : Int32) 84 (now.2.1 0) x2 (2 : Int32)) (fun q70 => Option.bind (f_X1_setting now (0 : Int32)) (fun q75 => if q70 = q75 then (f_X7_chance_B86 now rheld rhelp (rheld * (imin (20 : Int32) (q8 + rhelp))) (1 : Int32)) else (f_X7_chance_B86 now rheld rhelp (rheld * (imin (20 : Int32) (q8 + rhelp))) (0 : Int32))))) else if x4 = (3 : Int32) then (some ((rheld * (imin (20 : Int32) (q8 + rhelp))) / (2 : Int32))) else if x4 = (4 : Int32) then (some ((10 : Int32) * (imin (20 : Int32) (q8 + rhelp)))) else if x4 = (5 : Int32) then (some (400 : Int32)) else (some (rheld * (imin (20 : Int32) (q8 + rhelp)))))
set_option maxHeartbeats 4000000 in
set_option maxRecDepth 100000 in
theorem c_X7_chance {D : va_G} {cs : Nat → ClassId} {sa : Nat → Nat} {n : Nat} {ad : Nat → Nat} {A : Nat → Prop} (l : Launch) {en : Nat → va_E}  {now : HallV} {rheld : Int32} {rsecs : Int32} {rhelp : Int32} {rna : Int32} {rout : Int32} {rmiss : Int64} {x2 : Int32} {x3 : Int32} {x4 : Int32}  {q : Int32} (hn : 110 ≤ n) (e_rowso : en 96 = .inr (4, [.ref (ad 97), .int rheld, .int rsecs, .int rhelp, .int rna, .int rout, .long rmiss])) (H_now : Hall cs ad en 1 now) (h : f_X7_chance now rheld rhelp x2 x3 x4 = some q) : Met l yX7_chance wsX7_chance { frames := 2, cells := 0, slots := 0, locals := 44 } (va_Pc [.ref (ad 96), .ref (ad 1), .int x2, .int x3, .int x4] (Wd D cs sa n ad A en)) (va_Qi (fun r u => q = r ∧ en = u) (Wd D cs sa n ad A) A) 0 0 A := by
  refine G_startI cX7_chance 8 [(0, .ref (ad 96)), (1, .ref (ad 1)), (2, .int x2), (3, .int x3), (4, .int x4)] (by decide) rfl (Nat.le_of_ble_eq_true rfl) rfl ?_
  intro p e s m args below meth c Q hC hnm Kr
  have inX1 : ∀ w ∈ u_ws RX1 TX1 6, w ∈ wsX7_chance := by decide +kernel
  have inX7 : ∀ w ∈ u_ws RX7 TX7 7, w ∈ wsX7_chance := by decide +kernel
  have m33 : Cond.fieldLink RX7 33 "TongueTip$Rows" "held" "I" ∈ wsX7_chance := by decide +kernel
  have m36 : Cond.fieldLink RX7 36 "TongueTip$Rows" "help" "I" ∈ wsX7_chance := by decide +kernel
  have m47 : Cond.fieldLink RX7 47 "TongueTip$Hall" "tries" "LTongueTip$Table;" ∈ wsX7_chance := by decide +kernel
  have m84 : Cond.fieldLink RX7 84 "TongueTip$Hall" "people" "LTongueTip$Table;" ∈ wsX7_chance := by decide +kernel
  have x79 : Cond.methodLink RX7 79 Lib.Math.min.name ∈ wsX7_chance := by decide +kernel
  have xcmin : Cond.code Lib.Math.min.name Lib.Math.min.code 2 (some .int) ∈ wsX7_chance := by decide +kernel
  have xi : Cond.initialized "java/lang/Math" ∈ wsX7_chance := by decide +kernel
  have xsmin : Cond.static Lib.Math.min.name ∈ wsX7_chance := by decide +kernel
  have hB86 : ∀ (x6 : Int32) (s0 : Int32), f_X7_chance_B86 now rheld rhelp x6 s0 = some q → G p l e ({ frames := 2, cells := 0, slots := 0, locals := 44 } : Room) s m args below meth c D n ad A 8 0 0 Q en 86 [(6, .int x6)] [.int s0] := by
    intro x6 s0 h
    unfold f_X7_chance_B86 at h
    refine G_istore hC 7 [(7, .int s0), (6, .int x6)] (by decide) rfl dX7_chance_86 ?_
    refine G_iload hC 7 0 rfl dX7_chance_88 ?_
    refine G_if_eq hC 98 dX7_chance_90 (by decide) (fun c90 => ?_) (fun c90 => ?_)
    · have h := ifp c90 h
      refine G_iload hC 6 1 rfl dX7_chance_98 ?_
      refine G_iconst hC (v := 2) (by decide) dX7_chance_100 ?_
      refine G_idiv hC (by decide) dX7_chance_101 ?_
      have h := Option.some.inj h
      subst h
      exact Kr _ _ _ _ (nar_i _) ⟨rfl, rfl⟩ dX7_chance_102
    have h := ifn c90 h
    refine G_iload hC 6 1 rfl dX7_chance_93 ?_
    refine G_goto hC 102 dX7_chance_95 (by decide) ?_
    have h := Option.some.inj h
    subst h
    exact Kr _ _ _ _ (nar_i _) ⟨rfl, rfl⟩ dX7_chance_102
  unfold f_X7_chance at h
  refine G_bipush hC (v := 20) (by decide) dX7_chance_0 ?_
  refine G_aload_n hC 1 1 rfl rfl dX7_chance_2 ?_
  refine G_get hC inX1 1 (by omega) (v := .ref (ad (4))) (H_now 0 (by decide)) rfl 1 (by decide) m47 rfl rfl dX7_chance_3 ?_
  refine G_iload_n hC 3 3 rfl rfl dX7_chance_6 ?_
  refine G_iconst hC (v := 2) (by decide) dX7_chance_7 ?_
  obtain ⟨q8, h8, h⟩ := bnd h
  refine G_cVi (st := [.int (20 : Int32)]) hC _ (1 + 3) (by omega) (c_X8_number (pp := 1 + 3) l (by omega) (H_now 3 (by decide)) (H_now 4 (by decide)) h8) (cwV 2 hC.hts gX7_chance_X8_number rfl rfl rfl (by decide +kernel) ⟨Nat.le_of_ble_eq_true rfl, Nat.le_of_ble_eq_true rfl⟩) (H_now 3 (by decide)) rfl rfl (Nat.le_of_ble_eq_true rfl) (Nat.zero_le _) (Nat.zero_le _) rfl dX7_chance_8 (fun r8 enx hw => ?_)
  obtain ⟨rfl, rfl⟩ := hw
  refine G_aload_n hC 0 0 rfl rfl dX7_chance_11 ?_
  refine G_get hC inX7 96 (by omega) (v := .int rhelp) e_rowso rfl 3 (by decide) m36 rfl rfl dX7_chance_12 ?_
  refine G_iadd hC dX7_chance_15 ?_
  refine G_mmin hC x79 xsmin xi xcmin (Nat.le_of_ble_eq_true rfl) (Nat.le_of_ble_eq_true rfl) (Nat.zero_le _) (Nat.zero_le _) dX7_chance_16 ?_
  refine G_istore hC 5 [(5, .int (imin (20 : Int32) (q8 + rhelp))), (0, .ref (ad 96)), (1, .ref (ad 1)), (2, .int x2), (3, .int x3), (4, .int x4)] (by decide) rfl dX7_chance_19 ?_
  refine G_aload_n hC 0 1 rfl rfl dX7_chance_21 ?_
  refine G_get hC inX7 96 (by omega) (v := .int rheld) e_rowso rfl 1 (by decide) m33 rfl rfl dX7_chance_22 ?_
  refine G_iload hC 5 0 rfl dX7_chance_25 ?_
  refine G_imul hC dX7_chance_27 ?_
  refine G_istore hC 6 [(6, .int (rheld * (imin (20 : Int32) (q8 + rhelp)))), (5, .int (imin (20 : Int32) (q8 + rhelp))), (0, .ref (ad 96)), (1, .ref (ad 1)), (2, .int x2), (3, .int x3), (4, .int x4)] (by decide) rfl dX7_chance_28 ?_
  refine G_iload hC 4 6 rfl dX7_chance_30 ?_
  by_cases c32_0 : x4 = (2 : Int32)
  · have h := ifp c32_0 h
    refine G_tabIn hC 64 dX7_chance_32 (by rw [c32_0]; decide) (by rw [c32_0]; decide) (off := 32) (by rw [c32_0]; decide) (by decide) ?_
    refine G_aload_n hC 1 3 rfl rfl dX7_chance_64 ?_
    refine G_get hC inX1 1 (by omega) (v := .ref (ad (2))) (H_now 0 (by decide)) rfl 0 (by decide) m84 rfl rfl dX7_chance_65 ?_
    refine G_iload_n hC 2 4 rfl rfl dX7_chance_68 ?_
    refine G_iconst hC (v := 2) (by decide) dX7_chance_69 ?_
    obtain ⟨q70, h70, h⟩ := bnd h
    refine G_cVi (st := []) hC _ (1 + 1) (by omega) (c_X8_number (pp := 1 + 1) l (by omega) (H_now 1 (by decide)) (H_now 2 (by decide)) h70) (cwV 2 hC.hts gX7_chance_X8_number rfl rfl rfl (by decide +kernel) ⟨Nat.le_of_ble_eq_true rfl, Nat.le_of_ble_eq_true rfl⟩) (H_now 1 (by decide)) rfl rfl (Nat.le_of_ble_eq_true rfl) (Nat.zero_le _) (Nat.zero_le _) rfl dX7_chance_70 (fun r70 enx hw => ?_)
    obtain ⟨rfl, rfl⟩ := hw
    refine G_aload_n hC 1 3 rfl rfl dX7_chance_73 ?_
    refine G_iconst hC (v := 0) (by decide) dX7_chance_74 ?_
    obtain ⟨q75, h75, h⟩ := bnd h
    refine G_cVi (st := [.int q70]) hC _ 1 (by omega) (c_X1_setting (kk := 1) l (by omega) H_now h75) (cwV 1 hC.hts gX7_chance_X1_setting rfl rfl rfl (by decide +kernel) ⟨Nat.le_of_ble_eq_true rfl, Nat.le_of_ble_eq_true rfl⟩) (H_now 0 (by decide)) rfl rfl (Nat.le_of_ble_eq_true rfl) (Nat.zero_le _) (Nat.zero_le _) rfl dX7_chance_75 (fun r75 enx hw => ?_)
    obtain ⟨rfl, rfl⟩ := hw
    refine G_icmp_ne hC 85 dX7_chance_78 (by decide) (fun c78 => ?_) (fun c78 => ?_)
    · have h := ifn c78 h
      refine G_iconst hC (v := 0) (by decide) dX7_chance_85 ?_
      refine G_lv [0] rfl ?_
      exact hB86 _ _ h
    have h := ifp c78 h
    refine G_iconst hC (v := 1) (by decide) dX7_chance_81 ?_
    refine G_goto hC 86 dX7_chance_82 (by decide) ?_
    refine G_lv [0] rfl ?_
    exact hB86 _ _ h
  have h := ifn c32_0 h
  by_cases c32_1 : x4 = (3 : Int32)
  · have h := ifp c32_1 h
    refine G_tabIn hC 103 dX7_chance_32 (by rw [c32_1]; decide) (by rw [c32_1]; decide) (off := 71) (by rw [c32_1]; decide) (by decide) ?_
    refine G_iload hC 6 0 rfl dX7_chance_103 ?_
    refine G_iconst hC (v := 2) (by decide) dX7_chance_105 ?_
    refine G_idiv hC (by decide) dX7_chance_106 ?_
    have h := Option.some.inj h
    subst h
    exact Kr _ _ _ _ (nar_i _) ⟨rfl, rfl⟩ dX7_chance_107
  have h := ifn c32_1 h
  by_cases c32_2 : x4 = (4 : Int32)
  · have h := ifp c32_2 h
    refine G_tabIn hC 108 dX7_chance_32 (by rw [c32_2]; decide) (by rw [c32_2]; decide) (off := 76) (by rw [c32_2]; decide) (by decide) ?_
    refine G_bipush hC (v := 10) (by decide) dX7_chance_108 ?_
    refine G_iload hC 5 1 rfl dX7_chance_110 ?_
    refine G_imul hC dX7_chance_112 ?_
    have h := Option.some.inj h
    subst h
    exact Kr _ _ _ _ (nar_i _) ⟨rfl, rfl⟩ dX7_chance_113
  have h := ifn c32_2 h
  by_cases c32_3 : x4 = (5 : Int32)
  · have h := ifp c32_3 h
    refine G_tabIn hC 114 dX7_chance_32 (by rw [c32_3]; decide) (by rw [c32_3]; decide) (off := 82) (by rw [c32_3]; decide) (by decide) ?_
    refine G_sipush hC (v := 400) (by decide) dX7_chance_114 ?_
    have h := Option.some.inj h
    subst h
    exact Kr _ _ _ _ (nar_i _) ⟨rfl, rfl⟩ dX7_chance_117
  have h := ifn c32_3 h
  refine G_tabOut hC 118 dX7_chance_32 (sw_out 2 5 (by decide) (fun i h0 h1 => by
    rcases (show i = 2 ∨ i = 3 ∨ i = 4 ∨ i = 5 by omega) with rfl | rfl | rfl | rfl
    · exact c32_0
    · exact c32_1
    · exact c32_2
    · exact c32_3)) (by decide) ?_
  refine G_iload hC 6 0 rfl dX7_chance_118 ?_
  have h := Option.some.inj h
  subst h
  exact Kr _ _ _ _ (nar_i _) ⟨rfl, rfl⟩ dX7_chance_120
def f_X7_take_B163 (now : HallV) (rheld : Int32)  (rsecs : Int32) (rhelp : Int32) (rna : Int32) (rout : Int32) (rmiss : Int64) (s1 : Int32) (s2 : Int32) : Option (Int32 × Int32 × Int32 × Int32 × Int64) := some (rsecs, s1 + s2, rna, rout, rmiss)
def f_X7_take_B119 (now : HallV) (rheld : Int32)  (rsecs : Int32) (rhelp : Int32) (rna : Int32) (rout : Int32) (rmiss : Int64) (x3 : Int32) (x4 : Int32) : Option (Int32 × Int32 × Int32 × Int32 × Int64) := Option.bind (f_X8_number (3 : Int32) 15 (now.2.1 1) x3 (1 : Int32)) (fun q130 => if x4 = (1 : Int32) then (f_X7_take_B163 now rheld (rsecs + q130) rhelp rna rout rmiss rhelp (2 : Int32)) else (if x4 = (2 : Int32) then (f_X7_take_B163 now rheld (rsecs + q130) rhelp rna rout rmiss rhelp (3 : Int32)) else (f_X7_take_B163 now rheld (rsecs + q130) rhelp rna rout rmiss rhelp (0 : Int32))))
def f_X7_take_B92 (now : HallV) (rheld : Int32)  (rsecs : Int32) (rhelp : Int32) (rna : Int32) (rout : Int32) (rmiss : Int64) (x2 : Int32) (x3 : Int32) (x4 : Int32) : Option (Int32 × Int32 × Int32 × Int32 × Int64) := Option.bind (f_X7_chance now rheld rhelp x2 x3 x4) (fun q110 => f_X7_take_B119 now rheld rsecs rhelp rna rout ((rmiss / (400 : Int64)) * (((400 : Int32) - q110).toInt64)) x3 x4)
def f_X7_take_B73 (now : HallV) (rheld : Int32)  (rsecs : Int32) (rhelp : Int32) (rna : Int32) (rout : Int32) (rmiss : Int64) (x2 : Int32) (x3 : Int32) (x4 : Int32) (s0 : Int32) : Option (Int32 × Int32 × Int32 × Int32 × Int64) := if s0 = 0 then (f_X7_take_B92 now rheld rsecs rhelp rna rout rmiss x2 x3 x4) else (Option.bind (f_X1_setting now (2 : Int32)) (fun q86 => if rsecs < q86 then (f_X7_take_B119 now rheld rsecs rhelp rna rout rmiss x3 x4) else (f_X7_take_B92 now rheld rsecs rhelp rna rout rmiss x2 x3 x4)))
def f_X7_take_B72 (now : HallV) (rheld : Int32)  (rsecs : Int32) (rhelp : Int32) (rna : Int32) (rout : Int32) (rmiss : Int64) (x2 : Int32) (x3 : Int32) (x4 : Int32) : Option (Int32 × Int32 × Int32 × Int32 × Int64) := f_X7_take_B73 now rheld rsecs rhelp rna rout rmiss x2 x3 x4 (0 : Int32)
def f_X7_take_B52 (now : HallV) (rheld : Int32)  (rsecs : Int32) (rhelp : Int32) (rna : Int32) (rout : Int32) (rmiss : Int64) (x2 : Int32) (x3 : Int32) (x4 : Int32) (s1 : Int32) : Option (Int32 × Int32 × Int32 × Int32 × Int64) := if s1 = 0 ∨ s1 = 1 then (if (2 : Int32) < x4 then (f_X7_take_B72 now rheld rsecs rhelp rna s1 rmiss x2 x3 x4) else (if rna = 0 then (f_X7_take_B73 now rheld rsecs rhelp rna s1 rmiss x2 x3 x4 (1 : Int32)) else (f_X7_take_B72 now rheld rsecs rhelp rna s1 rmiss x2 x3 x4))) else none
def f_X7_take_B47 (now : HallV) (rheld : Int32)  (rsecs : Int32) (rhelp : Int32) (rna : Int32) (rout : Int32) (rmiss : Int64) (x2 : Int32) (x3 : Int32) (x4 : Int32) : Option (Int32 × Int32 × Int32 × Int32 × Int64) := f_X7_take_B52 now rheld rsecs rhelp rna rout rmiss x2 x3 x4 (1 : Int32)
def f_X7_take_B30 (now : HallV) (rheld : Int32)  (rsecs : Int32) (rhelp : Int32) (rna : Int32) (rout : Int32) (rmiss : Int64) (x2 : Int32) (x3 : Int32) (x4 : Int32) (s1 : Int32) : Option (Int32 × Int32 × Int32 × Int32 × Int64) := if s1 = 0 ∨ s1 = 1 then (if rout = 0 then (if x4 = (5 : Int32) then (f_X7_take_B47 now rheld rsecs rhelp s1 rout rmiss x2 x3 x4) else (f_X7_take_B52 now rheld rsecs rhelp s1 rout rmiss x2 x3 x4 (0 : Int32))) else (f_X7_take_B47 now rheld rsecs rhelp s1 rout rmiss x2 x3 x4)) else none
def f_X7_take_B25 (now : HallV) (rheld : Int32)  (rsecs : Int32) (rhelp : Int32) (rna : Int32) (rout : Int32) (rmiss : Int64) (x2 : Int32) (x3 : Int32) (x4 : Int32) : Option (Int32 × Int32 × Int32 × Int32 × Int64) := f_X7_take_B30 now rheld rsecs rhelp rna rout rmiss x2 x3 x4 (1 : Int32)
def f_X7_take (now : HallV) (rheld : Int32) (rsecs : Int32) (rhelp : Int32) (rna : Int32) (rout : Int32) (rmiss : Int64) (x2 : Int32) (x3 : Int32) : Option (Int32 × Int32 × Int32 × Int32 × Int64) := Option.bind (f_X8_number (3 : Int32) 15 (now.2.1 1) x3 (0 : Int32)) (fun q6 => if rna = 0 then (if q6 = (3 : Int32) then (f_X7_take_B25 now rheld rsecs rhelp rna rout rmiss x2 x3 q6) else (f_X7_take_B30 now rheld rsecs rhelp rna rout rmiss x2 x3 q6 (0 : Int32))) else (f_X7_take_B25 now rheld rsecs rhelp rna rout rmiss x2 x3 q6))
set_option maxHeartbeats 4000000 in
set_option maxRecDepth 100000 in
theorem c_X7_take {D : va_G} {cs : Nat → ClassId} {sa : Nat → Nat} {n : Nat} {ad : Nat → Nat} {A : Nat → Prop} (l : Launch) {en : Nat → va_E}  {now : HallV} {rheld : Int32} {rsecs : Int32} {rhelp : Int32} {rna : Int32} {rout : Int32} {rmiss : Int64} {x2 : Int32} {x3 : Int32}  {q : Int32 × Int32 × Int32 × Int32 × Int64} (hn : 110 ≤ n) (e_rowso : en 96 = .inr (4, [.ref (ad 97), .int rheld, .int rsecs, .int rhelp, .int rna, .int rout, .long rmiss])) (H_now : Hall cs ad en 1 now) (h : f_X7_take now rheld rsecs rhelp rna rout rmiss x2 x3 = some q) : Met l yX7_take wsX7_take { frames := 3, cells := 0, slots := 0, locals := 71 } (va_Pc [.ref (ad 96), .ref (ad 1), .int x2, .int x3] (Wd D cs sa n ad A en)) (va_Qv (fun u => u 96 = .inr (4, [.ref (ad 97), .int rheld, .int q.1, .int q.2.1, .int q.2.2.1, .int q.2.2.2.1, .long q.2.2.2.2]) ∧ (∀ j, (j < 96 ∨ 97 ≤ j) → u j = en j)) (Wd D cs sa n ad A) A) 0 0 A := by
  refine G_startV cX7_take 6 [(0, .ref (ad 96)), (1, .ref (ad 1)), (2, .int x2), (3, .int x3)] (by decide) rfl (Nat.le_of_ble_eq_true rfl) rfl ?_
  intro p e s m args below meth c Q hC hnm Kr
  have inX1 : ∀ w ∈ u_ws RX1 TX1 6, w ∈ wsX7_take := by decide +kernel
  have inX7 : ∀ w ∈ u_ws RX7 TX7 7, w ∈ wsX7_take := by decide +kernel
  have k73 : Cond.constantLong RX7 73 (400) ∈ wsX7_take := by decide +kernel
  have m17 : Cond.fieldLink RX7 17 "TongueTip$Rows" "seconds" "I" ∈ wsX7_take := by decide +kernel
  have m23 : Cond.fieldLink RX7 23 "TongueTip$Rows" "missing" "J" ∈ wsX7_take := by decide +kernel
  have m36 : Cond.fieldLink RX7 36 "TongueTip$Rows" "help" "I" ∈ wsX7_take := by decide +kernel
  have m39 : Cond.fieldLink RX7 39 "TongueTip$Rows" "nothingAcross" "Z" ∈ wsX7_take := by decide +kernel
  have m43 : Cond.fieldLink RX7 43 "TongueTip$Rows" "outright" "Z" ∈ wsX7_take := by decide +kernel
  have m47 : Cond.fieldLink RX7 47 "TongueTip$Hall" "tries" "LTongueTip$Table;" ∈ wsX7_take := by decide +kernel
  have hB163 : ∀ (en1 : Nat → va_E) (rsecs : Int32) (rhelp : Int32) (rna : Int32) (rout : Int32) (rmiss : Int64) (s1 : Int32) (s2 : Int32), en1 96 = .inr (4, [.ref (ad 97), .int rheld, .int rsecs, .int rhelp, .int rna, .int rout, .long rmiss]) → Hall cs ad en1 1 now → (∀ j, (j < 96 ∨ 97 ≤ j) → en1 j = en j) → f_X7_take_B163 now rheld rsecs rhelp rna rout rmiss s1 s2 = some q → G p l e ({ frames := 3, cells := 0, slots := 0, locals := 71 } : Room) s m args below meth c D n ad A 6 0 0 Q en1 163 [] [.int s2, .int s1, .ref (ad 96)] := by
    intro en1 rsecs rhelp rna rout rmiss s1 s2 e_rowso H_now hfr h
    unfold f_X7_take_B163 at h
    refine G_iadd hC dX7_take_163 ?_
    refine G_put hC inX7 tyX7 tyX7_ok nmX7 96 (by omega) e_rowso rfl 3 (by decide) m36 rfl rfl (ty := .int) rfl rfl rfl (Nat.le_of_ble_eq_true rfl) dX7_take_164 (fun en2 e_rowso fr => ?_)
    have e_rowso : en2 96 = .inr (4, [.ref (ad 97), .int rheld, .int rsecs, .int (s1 + s2), .int rna, .int rout, .long rmiss]) := e_rowso
    have H_now := H_now.fr (fun j h1 h2 => fr j (by omega))
    have hfr : ∀ j, (j < 96 ∨ 97 ≤ j) → en2 j = en j := fun j o0 => (fr j (by omega)).trans (hfr j o0)
    have h := Option.some.inj h
    subst h
    exact Kr _ _ _ ⟨e_rowso, hfr⟩ dX7_take_167
  have hB119 : ∀ (en1 : Nat → va_E) (rsecs : Int32) (rhelp : Int32) (rna : Int32) (rout : Int32) (rmiss : Int64) (x3 : Int32) (x4 : Int32), en1 96 = .inr (4, [.ref (ad 97), .int rheld, .int rsecs, .int rhelp, .int rna, .int rout, .long rmiss]) → Hall cs ad en1 1 now → (∀ j, (j < 96 ∨ 97 ≤ j) → en1 j = en j) → f_X7_take_B119 now rheld rsecs rhelp rna rout rmiss x3 x4 = some q → G p l e ({ frames := 3, cells := 0, slots := 0, locals := 71 } : Room) s m args below meth c D n ad A 6 0 0 Q en1 119 [(0, .ref (ad 96)), (1, .ref (ad 1)), (3, .int x3), (4, .int x4)] [] := by
    intro en1 rsecs rhelp rna rout rmiss x3 x4 e_rowso H_now hfr h
    unfold f_X7_take_B119 at h
    refine G_aload_n hC 0 0 rfl rfl dX7_take_119 ?_
    refine G_dup hC rfl dX7_take_120 ?_
    refine G_get hC inX7 96 (by omega) (v := .int rsecs) e_rowso rfl 2 (by decide) m17 rfl rfl dX7_take_121 ?_
    refine G_aload_n hC 1 1 rfl rfl dX7_take_124 ?_
    refine G_get hC inX1 1 (by omega) (v := .ref (ad (4))) (H_now 0 (by decide)) rfl 1 (by decide) m47 rfl rfl dX7_take_125 ?_
    refine G_iload_n hC 3 2 rfl rfl dX7_take_128 ?_
    refine G_iconst hC (v := 1) (by decide) dX7_take_129 ?_
    obtain ⟨q130, h130, h⟩ := bnd h
    refine G_cVi (st := [.int rsecs, .ref (ad 96)]) hC _ (1 + 3) (by omega) (c_X8_number (pp := 1 + 3) l (by omega) (H_now 3 (by decide)) (H_now 4 (by decide)) h130) (cwV 2 hC.hts gX7_take_X8_number rfl rfl rfl (by decide +kernel) ⟨Nat.le_of_ble_eq_true rfl, Nat.le_of_ble_eq_true rfl⟩) (H_now 3 (by decide)) rfl rfl (Nat.le_of_ble_eq_true rfl) (Nat.zero_le _) (Nat.zero_le _) rfl dX7_take_130 (fun r130 enx hw => ?_)
    obtain ⟨rfl, rfl⟩ := hw
    refine G_iadd hC dX7_take_133 ?_
    refine G_put hC inX7 tyX7 tyX7_ok nmX7 96 (by omega) e_rowso rfl 2 (by decide) m17 rfl rfl (ty := .int) rfl rfl rfl (Nat.le_of_ble_eq_true rfl) dX7_take_134 (fun en2 e_rowso fr => ?_)
    have e_rowso : en2 96 = .inr (4, [.ref (ad 97), .int rheld, .int (rsecs + q130), .int rhelp, .int rna, .int rout, .long rmiss]) := e_rowso
    have H_now := H_now.fr (fun j h1 h2 => fr j (by omega))
    have hfr : ∀ j, (j < 96 ∨ 97 ≤ j) → en2 j = en j := fun j o0 => (fr j (by omega)).trans (hfr j o0)
    refine G_aload_n hC 0 0 rfl rfl dX7_take_137 ?_
    refine G_dup hC rfl dX7_take_138 ?_
    refine G_get hC inX7 96 (by omega) (v := .int rhelp) e_rowso rfl 3 (by decide) m36 rfl rfl dX7_take_139 ?_
    refine G_iload hC 4 3 rfl dX7_take_142 ?_
    refine G_iconst hC (v := 1) (by decide) dX7_take_144 ?_
    refine G_icmp_ne hC 152 dX7_take_145 (by decide) (fun c145 => ?_) (fun c145 => ?_)
    · have h := ifn c145 h
      refine G_iload hC 4 3 rfl dX7_take_152 ?_
      refine G_iconst hC (v := 2) (by decide) dX7_take_154 ?_
      refine G_icmp_ne hC 162 dX7_take_155 (by decide) (fun c155 => ?_) (fun c155 => ?_)
      · have h := ifn c155 h
        refine G_iconst hC (v := 0) (by decide) dX7_take_162 ?_
        refine G_lv [] rfl ?_
        exact hB163 _ _ _ _ _ _ _ _ e_rowso H_now hfr h
      have h := ifp c155 h
      refine G_iconst hC (v := 3) (by decide) dX7_take_158 ?_
      refine G_goto hC 163 dX7_take_159 (by decide) ?_
      refine G_lv [] rfl ?_
      exact hB163 _ _ _ _ _ _ _ _ e_rowso H_now hfr h
    have h := ifp c145 h
    refine G_iconst hC (v := 2) (by decide) dX7_take_148 ?_
    refine G_goto hC 163 dX7_take_149 (by decide) ?_
    refine G_lv [] rfl ?_
    exact hB163 _ _ _ _ _ _ _ _ e_rowso H_now hfr h
  have hB92 : ∀ (en1 : Nat → va_E) (rsecs : Int32) (rhelp : Int32) (rna : Int32) (rout : Int32) (rmiss : Int64) (x2 : Int32) (x3 : Int32) (x4 : Int32), en1 96 = .inr (4, [.ref (ad 97), .int rheld, .int rsecs, .int rhelp, .int rna, .int rout, .long rmiss]) → Hall cs ad en1 1 now → (∀ j, (j < 96 ∨ 97 ≤ j) → en1 j = en j) → f_X7_take_B92 now rheld rsecs rhelp rna rout rmiss x2 x3 x4 = some q → G p l e ({ frames := 3, cells := 0, slots := 0, locals := 71 } : Room) s m args below meth c D n ad A 6 0 0 Q en1 92 [(0, .ref (ad 96)), (1, .ref (ad 1)), (2, .int x2), (3, .int x3), (4, .int x4)] [] := by
    intro en1 rsecs rhelp rna rout rmiss x2 x3 x4 e_rowso H_now hfr h
    unfold f_X7_take_B92 at h
    refine G_aload_n hC 0 0 rfl rfl dX7_take_92 ?_
    refine G_aload_n hC 0 0 rfl rfl dX7_take_93 ?_
    refine G_get hC inX7 96 (by omega) (v := .long rmiss) e_rowso rfl 6 (by decide) m23 rfl rfl dX7_take_94 ?_
    refine G_ldc2 hC (v := (400)) k73 dX7_take_97 ?_
    refine G_ldiv hC (by decide) dX7_take_100 ?_
    refine G_sipush hC (v := 400) (by decide) dX7_take_101 ?_
    refine G_aload_n hC 0 0 rfl rfl dX7_take_104 ?_
    refine G_aload_n hC 1 1 rfl rfl dX7_take_105 ?_
    refine G_iload_n hC 2 2 rfl rfl dX7_take_106 ?_
    refine G_iload_n hC 3 3 rfl rfl dX7_take_107 ?_
    refine G_iload hC 4 4 rfl dX7_take_108 ?_
    obtain ⟨q110, h110, h⟩ := bnd h
    refine G_cVi (st := [.int (400 : Int32), .long (rmiss / (400 : Int64)), .ref (ad 96)]) hC _ 96 (by omega) (c_X7_chance  l (by omega) e_rowso H_now h110) (cwV 4 hC.hts gX7_take_X7_chance rfl rfl rfl (by decide +kernel) ⟨Nat.le_of_ble_eq_true rfl, Nat.le_of_ble_eq_true rfl⟩) e_rowso rfl rfl (Nat.le_of_ble_eq_true rfl) (Nat.zero_le _) (Nat.zero_le _) rfl dX7_take_110 (fun r110 enx hw => ?_)
    obtain ⟨rfl, rfl⟩ := hw
    refine G_isub hC dX7_take_113 ?_
    refine G_i2l hC dX7_take_114 ?_
    refine G_lmul hC dX7_take_115 ?_
    refine G_put hC inX7 tyX7 tyX7_ok nmX7 96 (by omega) e_rowso rfl 6 (by decide) m23 rfl rfl (ty := .long) rfl rfl rfl (Nat.le_of_ble_eq_true rfl) dX7_take_116 (fun en2 e_rowso fr => ?_)
    have e_rowso : en2 96 = .inr (4, [.ref (ad 97), .int rheld, .int rsecs, .int rhelp, .int rna, .int rout, .long ((rmiss / (400 : Int64)) * (((400 : Int32) - q110).toInt64))]) := e_rowso
    have H_now := H_now.fr (fun j h1 h2 => fr j (by omega))
    have hfr : ∀ j, (j < 96 ∨ 97 ≤ j) → en2 j = en j := fun j o0 => (fr j (by omega)).trans (hfr j o0)
    refine G_lv [0, 1, 3, 4] rfl ?_
    exact hB119 _ _ _ _ _ _ _ _ e_rowso H_now hfr h
  have hB73 : ∀ (en1 : Nat → va_E) (rsecs : Int32) (rhelp : Int32) (rna : Int32) (rout : Int32) (rmiss : Int64) (x2 : Int32) (x3 : Int32) (x4 : Int32) (s0 : Int32), en1 96 = .inr (4, [.ref (ad 97), .int rheld, .int rsecs, .int rhelp, .int rna, .int rout, .long rmiss]) → Hall cs ad en1 1 now → (∀ j, (j < 96 ∨ 97 ≤ j) → en1 j = en j) → f_X7_take_B73 now rheld rsecs rhelp rna rout rmiss x2 x3 x4 s0 = some q → G p l e ({ frames := 3, cells := 0, slots := 0, locals := 71 } : Room) s m args below meth c D n ad A 6 0 0 Q en1 73 [(0, .ref (ad 96)), (1, .ref (ad 1)), (2, .int x2), (3, .int x3), (4, .int x4)] [.int s0] := by
    intro en1 rsecs rhelp rna rout rmiss x2 x3 x4 s0 e_rowso H_now hfr h
    unfold f_X7_take_B73 at h
    refine G_istore hC 5 [(5, .int s0), (0, .ref (ad 96)), (1, .ref (ad 1)), (2, .int x2), (3, .int x3), (4, .int x4)] (by decide) rfl dX7_take_73 ?_
    refine G_iload hC 5 0 rfl dX7_take_75 ?_
    refine G_if_eq hC 92 dX7_take_77 (by decide) (fun c77 => ?_) (fun c77 => ?_)
    · have h := ifp c77 h
      refine G_lv [1, 2, 3, 4, 5] rfl ?_
      exact hB92 _ _ _ _ _ _ _ _ _ e_rowso H_now hfr h
    have h := ifn c77 h
    refine G_aload_n hC 0 1 rfl rfl dX7_take_80 ?_
    refine G_get hC inX7 96 (by omega) (v := .int rsecs) e_rowso rfl 2 (by decide) m17 rfl rfl dX7_take_81 ?_
    refine G_aload_n hC 1 2 rfl rfl dX7_take_84 ?_
    refine G_iconst hC (v := 2) (by decide) dX7_take_85 ?_
    obtain ⟨q86, h86, h⟩ := bnd h
    refine G_cVi (st := [.int rsecs]) hC _ 1 (by omega) (c_X1_setting (kk := 1) l (by omega) H_now h86) (cwV 1 hC.hts gX7_take_X1_setting rfl rfl rfl (by decide +kernel) ⟨Nat.le_of_ble_eq_true rfl, Nat.le_of_ble_eq_true rfl⟩) (H_now 0 (by decide)) rfl rfl (Nat.le_of_ble_eq_true rfl) (Nat.zero_le _) (Nat.zero_le _) rfl dX7_take_86 (fun r86 enx hw => ?_)
    obtain ⟨rfl, rfl⟩ := hw
    refine G_icmp_lt hC 119 dX7_take_89 (by decide) (fun c89 => ?_) (fun c89 => ?_)
    · have h := ifp c89 h
      refine G_lv [1, 2, 4, 5] rfl ?_
      exact hB119 _ _ _ _ _ _ _ _ e_rowso H_now hfr h
    have h := ifn c89 h
    refine G_lv [1, 2, 3, 4, 5] rfl ?_
    exact hB92 _ _ _ _ _ _ _ _ _ e_rowso H_now hfr h
  have hB72 : ∀ (en1 : Nat → va_E) (rsecs : Int32) (rhelp : Int32) (rna : Int32) (rout : Int32) (rmiss : Int64) (x2 : Int32) (x3 : Int32) (x4 : Int32), en1 96 = .inr (4, [.ref (ad 97), .int rheld, .int rsecs, .int rhelp, .int rna, .int rout, .long rmiss]) → Hall cs ad en1 1 now → (∀ j, (j < 96 ∨ 97 ≤ j) → en1 j = en j) → f_X7_take_B72 now rheld rsecs rhelp rna rout rmiss x2 x3 x4 = some q → G p l e ({ frames := 3, cells := 0, slots := 0, locals := 71 } : Room) s m args below meth c D n ad A 6 0 0 Q en1 72 [(0, .ref (ad 96)), (1, .ref (ad 1)), (2, .int x2), (3, .int x3), (4, .int x4)] [] := by
    intro en1 rsecs rhelp rna rout rmiss x2 x3 x4 e_rowso H_now hfr h
    unfold f_X7_take_B72 at h
    refine G_iconst hC (v := 0) (by decide) dX7_take_72 ?_
    refine G_lv [0, 1, 2, 3, 4] rfl ?_
    exact hB73 _ _ _ _ _ _ _ _ _ _ e_rowso H_now hfr h
  have hB52 : ∀ (en1 : Nat → va_E) (rsecs : Int32) (rhelp : Int32) (rna : Int32) (rout : Int32) (rmiss : Int64) (x2 : Int32) (x3 : Int32) (x4 : Int32) (s1 : Int32), en1 96 = .inr (4, [.ref (ad 97), .int rheld, .int rsecs, .int rhelp, .int rna, .int rout, .long rmiss]) → Hall cs ad en1 1 now → (∀ j, (j < 96 ∨ 97 ≤ j) → en1 j = en j) → f_X7_take_B52 now rheld rsecs rhelp rna rout rmiss x2 x3 x4 s1 = some q → G p l e ({ frames := 3, cells := 0, slots := 0, locals := 71 } : Room) s m args below meth c D n ad A 6 0 0 Q en1 52 [(0, .ref (ad 96)), (1, .ref (ad 1)), (2, .int x2), (3, .int x3), (4, .int x4)] [.int s1, .ref (ad 96)] := by
    intro en1 rsecs rhelp rna rout rmiss x2 x3 x4 s1 e_rowso H_now hfr h
    unfold f_X7_take_B52 at h
    obtain ⟨g52, h⟩ := asr h
    refine G_put hC inX7 tyX7 tyX7_ok nmX7 96 (by omega) e_rowso rfl 5 (by decide) m43 rfl rfl (ty := .boolean) rfl (nar_b g52) (fits_b g52) (Nat.le_of_ble_eq_true rfl) dX7_take_52 (fun en2 e_rowso fr => ?_)
    have e_rowso : en2 96 = .inr (4, [.ref (ad 97), .int rheld, .int rsecs, .int rhelp, .int rna, .int s1, .long rmiss]) := e_rowso
    have H_now := H_now.fr (fun j h1 h2 => fr j (by omega))
    have hfr : ∀ j, (j < 96 ∨ 97 ≤ j) → en2 j = en j := fun j o0 => (fr j (by omega)).trans (hfr j o0)
    refine G_iload hC 4 4 rfl dX7_take_55 ?_
    refine G_iconst hC (v := 2) (by decide) dX7_take_57 ?_
    refine G_icmp_gt hC 72 dX7_take_58 (by decide) (fun c58 => ?_) (fun c58 => ?_)
    · have h := ifp c58 h
      refine G_lv [0, 1, 2, 3, 4] rfl ?_
      exact hB72 _ _ _ _ _ _ _ _ _ e_rowso H_now hfr h
    have h := ifn c58 h
    refine G_aload_n hC 0 0 rfl rfl dX7_take_61 ?_
    refine G_get hC inX7 96 (by omega) (v := .int rna) e_rowso rfl 4 (by decide) m39 rfl rfl dX7_take_62 ?_
    refine G_if_ne hC 72 dX7_take_65 (by decide) (fun c65 => ?_) (fun c65 => ?_)
    · have h := ifn c65 h
      refine G_lv [0, 1, 2, 3, 4] rfl ?_
      exact hB72 _ _ _ _ _ _ _ _ _ e_rowso H_now hfr h
    have h := ifp c65 h
    refine G_iconst hC (v := 1) (by decide) dX7_take_68 ?_
    refine G_goto hC 73 dX7_take_69 (by decide) ?_
    refine G_lv [0, 1, 2, 3, 4] rfl ?_
    exact hB73 _ _ _ _ _ _ _ _ _ _ e_rowso H_now hfr h
  have hB47 : ∀ (en1 : Nat → va_E) (rsecs : Int32) (rhelp : Int32) (rna : Int32) (rout : Int32) (rmiss : Int64) (x2 : Int32) (x3 : Int32) (x4 : Int32), en1 96 = .inr (4, [.ref (ad 97), .int rheld, .int rsecs, .int rhelp, .int rna, .int rout, .long rmiss]) → Hall cs ad en1 1 now → (∀ j, (j < 96 ∨ 97 ≤ j) → en1 j = en j) → f_X7_take_B47 now rheld rsecs rhelp rna rout rmiss x2 x3 x4 = some q → G p l e ({ frames := 3, cells := 0, slots := 0, locals := 71 } : Room) s m args below meth c D n ad A 6 0 0 Q en1 47 [(0, .ref (ad 96)), (1, .ref (ad 1)), (2, .int x2), (3, .int x3), (4, .int x4)] [.ref (ad 96)] := by
    intro en1 rsecs rhelp rna rout rmiss x2 x3 x4 e_rowso H_now hfr h
    unfold f_X7_take_B47 at h
    refine G_iconst hC (v := 1) (by decide) dX7_take_47 ?_
    refine G_goto hC 52 dX7_take_48 (by decide) ?_
    refine G_lv [0, 1, 2, 3, 4] rfl ?_
    exact hB52 _ _ _ _ _ _ _ _ _ _ e_rowso H_now hfr h
  have hB30 : ∀ (en1 : Nat → va_E) (rsecs : Int32) (rhelp : Int32) (rna : Int32) (rout : Int32) (rmiss : Int64) (x2 : Int32) (x3 : Int32) (x4 : Int32) (s1 : Int32), en1 96 = .inr (4, [.ref (ad 97), .int rheld, .int rsecs, .int rhelp, .int rna, .int rout, .long rmiss]) → Hall cs ad en1 1 now → (∀ j, (j < 96 ∨ 97 ≤ j) → en1 j = en j) → f_X7_take_B30 now rheld rsecs rhelp rna rout rmiss x2 x3 x4 s1 = some q → G p l e ({ frames := 3, cells := 0, slots := 0, locals := 71 } : Room) s m args below meth c D n ad A 6 0 0 Q en1 30 [(0, .ref (ad 96)), (1, .ref (ad 1)), (2, .int x2), (3, .int x3), (4, .int x4)] [.int s1, .ref (ad 96)] := by
    intro en1 rsecs rhelp rna rout rmiss x2 x3 x4 s1 e_rowso H_now hfr h
    unfold f_X7_take_B30 at h
    obtain ⟨g30, h⟩ := asr h
    refine G_put hC inX7 tyX7 tyX7_ok nmX7 96 (by omega) e_rowso rfl 4 (by decide) m39 rfl rfl (ty := .boolean) rfl (nar_b g30) (fits_b g30) (Nat.le_of_ble_eq_true rfl) dX7_take_30 (fun en2 e_rowso fr => ?_)
    have e_rowso : en2 96 = .inr (4, [.ref (ad 97), .int rheld, .int rsecs, .int rhelp, .int s1, .int rout, .long rmiss]) := e_rowso
    have H_now := H_now.fr (fun j h1 h2 => fr j (by omega))
    have hfr : ∀ j, (j < 96 ∨ 97 ≤ j) → en2 j = en j := fun j o0 => (fr j (by omega)).trans (hfr j o0)
    refine G_aload_n hC 0 0 rfl rfl dX7_take_33 ?_
    refine G_aload_n hC 0 0 rfl rfl dX7_take_34 ?_
    refine G_get hC inX7 96 (by omega) (v := .int rout) e_rowso rfl 5 (by decide) m43 rfl rfl dX7_take_35 ?_
    refine G_if_ne hC 47 dX7_take_38 (by decide) (fun c38 => ?_) (fun c38 => ?_)
    · have h := ifn c38 h
      refine G_lv [0, 1, 2, 3, 4] rfl ?_
      exact hB47 _ _ _ _ _ _ _ _ _ e_rowso H_now hfr h
    have h := ifp c38 h
    refine G_iload hC 4 4 rfl dX7_take_41 ?_
    refine G_iconst hC (v := 5) (by decide) dX7_take_43 ?_
    refine G_icmp_ne hC 51 dX7_take_44 (by decide) (fun c44 => ?_) (fun c44 => ?_)
    · have h := ifn c44 h
      refine G_iconst hC (v := 0) (by decide) dX7_take_51 ?_
      refine G_lv [0, 1, 2, 3, 4] rfl ?_
      exact hB52 _ _ _ _ _ _ _ _ _ _ e_rowso H_now hfr h
    have h := ifp c44 h
    refine G_lv [0, 1, 2, 3, 4] rfl ?_
    exact hB47 _ _ _ _ _ _ _ _ _ e_rowso H_now hfr h
  have hB25 : ∀ (en1 : Nat → va_E) (rsecs : Int32) (rhelp : Int32) (rna : Int32) (rout : Int32) (rmiss : Int64) (x2 : Int32) (x3 : Int32) (x4 : Int32), en1 96 = .inr (4, [.ref (ad 97), .int rheld, .int rsecs, .int rhelp, .int rna, .int rout, .long rmiss]) → Hall cs ad en1 1 now → (∀ j, (j < 96 ∨ 97 ≤ j) → en1 j = en j) → f_X7_take_B25 now rheld rsecs rhelp rna rout rmiss x2 x3 x4 = some q → G p l e ({ frames := 3, cells := 0, slots := 0, locals := 71 } : Room) s m args below meth c D n ad A 6 0 0 Q en1 25 [(0, .ref (ad 96)), (1, .ref (ad 1)), (2, .int x2), (3, .int x3), (4, .int x4)] [.ref (ad 96)] := by
    intro en1 rsecs rhelp rna rout rmiss x2 x3 x4 e_rowso H_now hfr h
    unfold f_X7_take_B25 at h
    refine G_iconst hC (v := 1) (by decide) dX7_take_25 ?_
    refine G_goto hC 30 dX7_take_26 (by decide) ?_
    refine G_lv [0, 1, 2, 3, 4] rfl ?_
    exact hB30 _ _ _ _ _ _ _ _ _ _ e_rowso H_now hfr h
  unfold f_X7_take at h
  have hfr : ∀ j, (j < 96 ∨ 97 ≤ j) → en j = en j := fun _ _ => rfl
  refine G_aload_n hC 1 1 rfl rfl dX7_take_0 ?_
  refine G_get hC inX1 1 (by omega) (v := .ref (ad (4))) (H_now 0 (by decide)) rfl 1 (by decide) m47 rfl rfl dX7_take_1 ?_
  refine G_iload_n hC 3 3 rfl rfl dX7_take_4 ?_
  refine G_iconst hC (v := 0) (by decide) dX7_take_5 ?_
  obtain ⟨q6, h6, h⟩ := bnd h
  refine G_cVi (st := []) hC _ (1 + 3) (by omega) (c_X8_number (pp := 1 + 3) l (by omega) (H_now 3 (by decide)) (H_now 4 (by decide)) h6) (cwV 2 hC.hts gX7_take_X8_number rfl rfl rfl (by decide +kernel) ⟨Nat.le_of_ble_eq_true rfl, Nat.le_of_ble_eq_true rfl⟩) (H_now 3 (by decide)) rfl rfl (Nat.le_of_ble_eq_true rfl) (Nat.zero_le _) (Nat.zero_le _) rfl dX7_take_6 (fun r6 enx hw => ?_)
  obtain ⟨rfl, rfl⟩ := hw
  refine G_istore hC 4 [(4, .int q6), (0, .ref (ad 96)), (1, .ref (ad 1)), (2, .int x2), (3, .int x3)] (by decide) rfl dX7_take_9 ?_
  refine G_aload_n hC 0 1 rfl rfl dX7_take_11 ?_
  refine G_aload_n hC 0 1 rfl rfl dX7_take_12 ?_
  refine G_get hC inX7 96 (by omega) (v := .int rna) e_rowso rfl 4 (by decide) m39 rfl rfl dX7_take_13 ?_
  refine G_if_ne hC 25 dX7_take_16 (by decide) (fun c16 => ?_) (fun c16 => ?_)
  · have h := ifn c16 h
    refine G_lv [1, 2, 3, 4, 0] rfl ?_
    exact hB25 _ _ _ _ _ _ _ _ _ e_rowso H_now hfr h
  have h := ifp c16 h
  refine G_iload hC 4 0 rfl dX7_take_19 ?_
  refine G_iconst hC (v := 3) (by decide) dX7_take_21 ?_
  refine G_icmp_ne hC 29 dX7_take_22 (by decide) (fun c22 => ?_) (fun c22 => ?_)
  · have h := ifn c22 h
    refine G_iconst hC (v := 0) (by decide) dX7_take_29 ?_
    refine G_lv [1, 2, 3, 4, 0] rfl ?_
    exact hB30 _ _ _ _ _ _ _ _ _ _ e_rowso H_now hfr h
  have h := ifp c22 h
  refine G_lv [1, 2, 3, 4, 0] rfl ?_
  exact hB25 _ _ _ _ _ _ _ _ _ e_rowso H_now hfr h
def f_X7_go_B140 (now : HallV) (rL62 : Int32 → Int32 → Int32 → Int32 → Int32 → Int64 → Int32 → Int32 → Int32 → Int32 → Int32 → Option (Int32 × Int32 × Int32 × Int32 × Int32 × Int32 × Int64)) (rheld : Int32) (rsecs : Int32) (rhelp : Int32) (rna : Int32) (rout : Int32) (rmiss : Int64) (x2 : Int32) (x3 : Int32) (x4 : Int32) (x5 : Int32) (x6 : Int32) : Option (Int32 × Int32 × Int32 × Int32 × Int32 × Int32 × Int64) := rL62 rheld rsecs rhelp rna rout rmiss x2 x3 x4 x5 (x6 / (10 : Int32))
def f_X7_go_B116 (now : HallV) (rL62 : Int32 → Int32 → Int32 → Int32 → Int32 → Int64 → Int32 → Int32 → Int32 → Int32 → Int32 → Option (Int32 × Int32 × Int32 × Int32 × Int32 × Int32 × Int64)) (rheld : Int32) (rsecs : Int32) (rhelp : Int32) (rna : Int32) (rout : Int32) (rmiss : Int64) (x2 : Int32) (x3 : Int32) (x4 : Int32) (x6 : Int32) (x7 : Int32) (s0 : Int32) : Option (Int32 × Int32 × Int32 × Int32 × Int32 × Int32 × Int64) := if s0 = 0 then (f_X7_go_B140 now rL62 rheld rsecs rhelp rna rout rmiss x2 x3 x4 s0 x6) else (Option.bind (f_X7_take now rheld rsecs rhelp rna rout rmiss x2 x7) (fun q137 => f_X7_go_B140 now rL62 rheld q137.1 q137.2.1 q137.2.2.1 q137.2.2.2.1 q137.2.2.2.2 x2 x3 (x4 ||| ((1 : Int32) <<< (x7 &&& (31 : Int32)))) s0 x6))
def f_X7_go_B115 (now : HallV) (rL62 : Int32 → Int32 → Int32 → Int32 → Int32 → Int64 → Int32 → Int32 → Int32 → Int32 → Int32 → Option (Int32 × Int32 × Int32 × Int32 × Int32 × Int32 × Int64)) (rheld : Int32) (rsecs : Int32) (rhelp : Int32) (rna : Int32) (rout : Int32) (rmiss : Int64) (x2 : Int32) (x3 : Int32) (x4 : Int32) (x6 : Int32) (x7 : Int32) : Option (Int32 × Int32 × Int32 × Int32 × Int32 × Int32 × Int64) := f_X7_go_B116 now rL62 rheld rsecs rhelp rna rout rmiss x2 x3 x4 x6 x7 (0 : Int32)
def f_X7_go_L62 (now : HallV)  : Nat → Int32 → Int32 → Int32 → Int32 → Int32 → Int64 → Int32 → Int32 → Int32 → Int32 → Int32 → Option (Int32 × Int32 × Int32 × Int32 × Int32 × Int32 × Int64)
  | 0, _, _, _, _, _, _, _, _, _, _, _ => none
  | fu + 1, rheld, rsecs, rhelp, rna, rout, rmiss, x2, x3, x4, x5, x6 => if x5 = 0 then (if x5 = 0 ∨ x5 = 1 then (some (x5, rheld, rsecs, rhelp, rna, rout, rmiss)) else none) else (if x6 ≤ 0 then (if x5 = 0 ∨ x5 = 1 then (some (x5, rheld, rsecs, rhelp, rna, rout, rmiss)) else none) else (if x3 < x6 then (f_X7_go_B140 now (f_X7_go_L62 now fu) rheld rsecs rhelp rna rout rmiss x2 x3 x4 x5 x6) else (if x6 = 0 then none else (Option.bind (f_X8_holds (now.1 1) ((irm (x3 / x6) (10 : Int32)) - (1 : Int32))) (fun q95 => if q95 = 0 then (f_X7_go_B115 now (f_X7_go_L62 now fu) rheld rsecs rhelp rna rout rmiss x2 x3 x4 x6 ((irm (x3 / x6) (10 : Int32)) - (1 : Int32))) else (Option.bind (f_X10_isIn x4 ((irm (x3 / x6) (10 : Int32)) - (1 : Int32))) (fun q105 => if q105 = 0 then (f_X7_go_B116 now (f_X7_go_L62 now fu) rheld rsecs rhelp rna rout rmiss x2 x3 x4 x6 ((irm (x3 / x6) (10 : Int32)) - (1 : Int32)) (1 : Int32)) else (f_X7_go_B115 now (f_X7_go_L62 now fu) rheld rsecs rhelp rna rout rmiss x2 x3 x4 x6 ((irm (x3 / x6) (10 : Int32)) - (1 : Int32))))))))))
def f_X7_go_B55 (now : HallV)  (rheld : Int32) (rsecs : Int32) (rhelp : Int32) (rna : Int32) (rout : Int32) (rmiss : Int64) (x2 : Int32) (x3 : Int32) (x4 : Int32) (s0 : Int32) : Option (Int32 × Int32 × Int32 × Int32 × Int32 × Int32 × Int64) := f_X7_go_L62 now FU rheld rsecs rhelp rna rout rmiss x2 x3 x4 s0 (10000 : Int32)
def f_X7_go_B54 (now : HallV)  (rheld : Int32) (rsecs : Int32) (rhelp : Int32) (rna : Int32) (rout : Int32) (rmiss : Int64) (x2 : Int32) (x3 : Int32) (x4 : Int32) : Option (Int32 × Int32 × Int32 × Int32 × Int32 × Int32 × Int64) := f_X7_go_B55 now rheld rsecs rhelp rna rout rmiss x2 x3 x4 (0 : Int32)
def f_X7_go (now : HallV) (rheld : Int32) (rsecs : Int32) (rhelp : Int32) (rna : Int32) (rout : Int32) (rmiss : Int64) (x2 : Int32) (x3 : Int32) : Option (Int32 × Int32 × Int32 × Int32 × Int32 × Int32 × Int64) := Option.bind (f_X1_strengthLeft now x2 (0 : Int32)) (fun q4 => if x3 < 0 then (f_X7_go_B54 now q4 (0 : Int32) (0 : Int32) (0 : Int32) (0 : Int32) (10240000000000 : Int64) x2 x3 (0 : Int32)) else (if (54321 : Int32) < x3 then (f_X7_go_B54 now q4 (0 : Int32) (0 : Int32) (0 : Int32) (0 : Int32) (10240000000000 : Int64) x2 x3 (0 : Int32)) else (f_X7_go_B55 now q4 (0 : Int32) (0 : Int32) (0 : Int32) (0 : Int32) (10240000000000 : Int64) x2 x3 (0 : Int32) (1 : Int32))))
set_option maxHeartbeats 4000000 in
set_option maxRecDepth 100000 in
theorem c_X7_go {D : va_G} {cs : Nat → ClassId} {sa : Nat → Nat} {n : Nat} {ad : Nat → Nat} {A : Nat → Prop} (l : Launch) {en : Nat → va_E}  {now : HallV} {rheld : Int32} {rsecs : Int32} {rhelp : Int32} {rna : Int32} {rout : Int32} {rmiss : Int64} {x2 : Int32} {x3 : Int32}  {q : Int32 × Int32 × Int32 × Int32 × Int32 × Int32 × Int64} (hn : 110 ≤ n) (e_rowso : en 96 = .inr (4, [.ref (ad 97), .int rheld, .int rsecs, .int rhelp, .int rna, .int rout, .long rmiss])) (H_now : Hall cs ad en 1 now) (h : f_X7_go now rheld rsecs rhelp rna rout rmiss x2 x3 = some q) : Met l yX7_go wsX7_go { frames := 4, cells := 0, slots := 0, locals := 96 } (va_Pc [.ref (ad 96), .ref (ad 1), .int x2, .int x3] (Wd D cs sa n ad A en)) (va_Qi (fun r u => q.1 = r ∧ u 96 = .inr (4, [.ref (ad 97), .int q.2.1, .int q.2.2.1, .int q.2.2.2.1, .int q.2.2.2.2.1, .int q.2.2.2.2.2.1, .long q.2.2.2.2.2.2]) ∧ (∀ j, (j < 96 ∨ 97 ≤ j) → u j = en j)) (Wd D cs sa n ad A) A) 0 0 A := by
  refine G_startI cX7_go 8 [(0, .ref (ad 96)), (1, .ref (ad 1)), (2, .int x2), (3, .int x3)] (by decide) rfl (Nat.le_of_ble_eq_true rfl) rfl ?_
  intro p e s m args below meth c Q hC hnm Kr
  have inX1 : ∀ w ∈ u_ws RX1 TX1 6, w ∈ wsX7_go := by decide +kernel
  have inX7 : ∀ w ∈ u_ws RX7 TX7 7, w ∈ wsX7_go := by decide +kernel
  have k21 : Cond.constantLong RX7 21 (10240000000000) ∈ wsX7_go := by decide +kernel
  have k46 : Cond.constant RX7 46 (54321) ∈ wsX7_go := by decide +kernel
  have m17 : Cond.fieldLink RX7 17 "TongueTip$Rows" "seconds" "I" ∈ wsX7_go := by decide +kernel
  have m23 : Cond.fieldLink RX7 23 "TongueTip$Rows" "missing" "J" ∈ wsX7_go := by decide +kernel
  have m33 : Cond.fieldLink RX7 33 "TongueTip$Rows" "held" "I" ∈ wsX7_go := by decide +kernel
  have m36 : Cond.fieldLink RX7 36 "TongueTip$Rows" "help" "I" ∈ wsX7_go := by decide +kernel
  have m39 : Cond.fieldLink RX7 39 "TongueTip$Rows" "nothingAcross" "Z" ∈ wsX7_go := by decide +kernel
  have m43 : Cond.fieldLink RX7 43 "TongueTip$Rows" "outright" "Z" ∈ wsX7_go := by decide +kernel
  have m47 : Cond.fieldLink RX7 47 "TongueTip$Hall" "tries" "LTongueTip$Table;" ∈ wsX7_go := by decide +kernel
  have zi_X10_isIn : Cond.initialized RX10 ∈ wsX7_go := by decide +kernel
  have zs_X10_isIn : Cond.static yX10_isIn ∈ wsX7_go := by decide +kernel
  have hL62 : ∀ (fu62 : Nat), ∀ (en1 : Nat → va_E) (rheld : Int32) (rsecs : Int32) (rhelp : Int32) (rna : Int32) (rout : Int32) (rmiss : Int64) (x2 : Int32) (x3 : Int32) (x4 : Int32) (x5 : Int32) (x6 : Int32), en1 96 = .inr (4, [.ref (ad 97), .int rheld, .int rsecs, .int rhelp, .int rna, .int rout, .long rmiss]) → Hall cs ad en1 1 now → (∀ j, (j < 96 ∨ 97 ≤ j) → en1 j = en j) → f_X7_go_L62 now fu62 rheld rsecs rhelp rna rout rmiss x2 x3 x4 x5 x6 = some q → G p l e ({ frames := 4, cells := 0, slots := 0, locals := 96 } : Room) s m args below meth c D n ad A 8 0 0 Q en1 62 [(0, .ref (ad 96)), (1, .ref (ad 1)), (2, .int x2), (3, .int x3), (4, .int x4), (5, .int x5), (6, .int x6)] [] := by
    intro fu62
    induction fu62 with
    | zero =>
      intro en1 rheld rsecs rhelp rna rout rmiss x2 x3 x4 x5 x6 e_rowso H_now hfr h
      rw [f_X7_go_L62] at h
      cases h
    | succ fu62 ih62 =>
      have hB140 : ∀ (en1 : Nat → va_E) (rheld : Int32) (rsecs : Int32) (rhelp : Int32) (rna : Int32) (rout : Int32) (rmiss : Int64) (x2 : Int32) (x3 : Int32) (x4 : Int32) (x5 : Int32) (x6 : Int32), en1 96 = .inr (4, [.ref (ad 97), .int rheld, .int rsecs, .int rhelp, .int rna, .int rout, .long rmiss]) → Hall cs ad en1 1 now → (∀ j, (j < 96 ∨ 97 ≤ j) → en1 j = en j) → f_X7_go_B140 now (f_X7_go_L62 now fu62) rheld rsecs rhelp rna rout rmiss x2 x3 x4 x5 x6 = some q → G p l e ({ frames := 4, cells := 0, slots := 0, locals := 96 } : Room) s m args below meth c D n ad A 8 0 0 Q en1 140 [(0, .ref (ad 96)), (1, .ref (ad 1)), (2, .int x2), (3, .int x3), (4, .int x4), (5, .int x5), (6, .int x6)] [] := by
        intro en1 rheld rsecs rhelp rna rout rmiss x2 x3 x4 x5 x6 e_rowso H_now hfr h
        unfold f_X7_go_B140 at h
        refine G_iload hC 6 6 rfl dX7_go_140 ?_
        refine G_bipush hC (v := 10) (by decide) dX7_go_142 ?_
        refine G_idiv hC (by decide) dX7_go_144 ?_
        refine G_istore hC 6 [(6, .int (x6 / (10 : Int32))), (0, .ref (ad 96)), (1, .ref (ad 1)), (2, .int x2), (3, .int x3), (4, .int x4), (5, .int x5)] (by decide) rfl dX7_go_145 ?_
        refine G_goto hC 62 dX7_go_147 (by decide) ?_
        refine G_lv [1, 2, 3, 4, 5, 6, 0] rfl ?_
        exact ih62 _ _ _ _ _ _ _ _ _ _ _ _ e_rowso H_now hfr h
      have hB116 : ∀ (en1 : Nat → va_E) (rheld : Int32) (rsecs : Int32) (rhelp : Int32) (rna : Int32) (rout : Int32) (rmiss : Int64) (x2 : Int32) (x3 : Int32) (x4 : Int32) (x6 : Int32) (x7 : Int32) (s0 : Int32), en1 96 = .inr (4, [.ref (ad 97), .int rheld, .int rsecs, .int rhelp, .int rna, .int rout, .long rmiss]) → Hall cs ad en1 1 now → (∀ j, (j < 96 ∨ 97 ≤ j) → en1 j = en j) → f_X7_go_B116 now (f_X7_go_L62 now fu62) rheld rsecs rhelp rna rout rmiss x2 x3 x4 x6 x7 s0 = some q → G p l e ({ frames := 4, cells := 0, slots := 0, locals := 96 } : Room) s m args below meth c D n ad A 8 0 0 Q en1 116 [(0, .ref (ad 96)), (1, .ref (ad 1)), (2, .int x2), (3, .int x3), (4, .int x4), (6, .int x6), (7, .int x7)] [.int s0] := by
        intro en1 rheld rsecs rhelp rna rout rmiss x2 x3 x4 x6 x7 s0 e_rowso H_now hfr h
        unfold f_X7_go_B116 at h
        refine G_istore hC 5 [(5, .int s0), (0, .ref (ad 96)), (1, .ref (ad 1)), (2, .int x2), (3, .int x3), (4, .int x4), (6, .int x6), (7, .int x7)] (by decide) rfl dX7_go_116 ?_
        refine G_iload hC 5 0 rfl dX7_go_118 ?_
        refine G_if_eq hC 140 dX7_go_120 (by decide) (fun c120 => ?_) (fun c120 => ?_)
        · have h := ifp c120 h
          refine G_lv [1, 2, 3, 4, 5, 0, 6] rfl ?_
          exact hB140 _ _ _ _ _ _ _ _ _ _ _ _ e_rowso H_now hfr h
        have h := ifn c120 h
        refine G_iload hC 4 5 rfl dX7_go_123 ?_
        refine G_iconst hC (v := 1) (by decide) dX7_go_125 ?_
        refine G_iload hC 7 7 rfl dX7_go_126 ?_
        refine G_ishl hC dX7_go_128 ?_
        refine G_ior hC dX7_go_129 ?_
        refine G_istore hC 4 [(4, .int (x4 ||| ((1 : Int32) <<< (x7 &&& (31 : Int32))))), (5, .int s0), (0, .ref (ad 96)), (1, .ref (ad 1)), (2, .int x2), (3, .int x3), (6, .int x6), (7, .int x7)] (by decide) rfl dX7_go_130 ?_
        refine G_aload_n hC 0 2 rfl rfl dX7_go_132 ?_
        refine G_aload_n hC 1 3 rfl rfl dX7_go_133 ?_
        refine G_iload_n hC 2 4 rfl rfl dX7_go_134 ?_
        refine G_iload hC 7 7 rfl dX7_go_135 ?_
        obtain ⟨q137, h137, h⟩ := bnd h
        refine G_cVv (st := []) hC _ 96 (by omega) (c_X7_take  l (by omega) e_rowso H_now h137) (cwV 3 hC.hts gX7_go_X7_take rfl rfl rfl (by decide +kernel) ⟨Nat.le_of_ble_eq_true rfl, Nat.le_of_ble_eq_true rfl⟩) e_rowso rfl rfl (Nat.le_of_ble_eq_true rfl) (Nat.zero_le _) (Nat.zero_le _) rfl dX7_go_137 (fun en2 hw => ?_)
        obtain ⟨e_rowso, fr⟩ := hw
        have H_now := H_now.fr (fun j h1 h2 => fr j (by omega))
        have hfr : ∀ j, (j < 96 ∨ 97 ≤ j) → en2 j = en j := fun j o0 => (fr j (by omega)).trans (hfr j o0)
        refine G_lv [2, 3, 4, 5, 0, 1, 6] rfl ?_
        exact hB140 _ _ _ _ _ _ _ _ _ _ _ _ e_rowso H_now hfr h
      have hB115 : ∀ (en1 : Nat → va_E) (rheld : Int32) (rsecs : Int32) (rhelp : Int32) (rna : Int32) (rout : Int32) (rmiss : Int64) (x2 : Int32) (x3 : Int32) (x4 : Int32) (x6 : Int32) (x7 : Int32), en1 96 = .inr (4, [.ref (ad 97), .int rheld, .int rsecs, .int rhelp, .int rna, .int rout, .long rmiss]) → Hall cs ad en1 1 now → (∀ j, (j < 96 ∨ 97 ≤ j) → en1 j = en j) → f_X7_go_B115 now (f_X7_go_L62 now fu62) rheld rsecs rhelp rna rout rmiss x2 x3 x4 x6 x7 = some q → G p l e ({ frames := 4, cells := 0, slots := 0, locals := 96 } : Room) s m args below meth c D n ad A 8 0 0 Q en1 115 [(0, .ref (ad 96)), (1, .ref (ad 1)), (2, .int x2), (3, .int x3), (4, .int x4), (6, .int x6), (7, .int x7)] [] := by
        intro en1 rheld rsecs rhelp rna rout rmiss x2 x3 x4 x6 x7 e_rowso H_now hfr h
        unfold f_X7_go_B115 at h
        refine G_iconst hC (v := 0) (by decide) dX7_go_115 ?_
        refine G_lv [0, 1, 2, 3, 4, 5, 6] rfl ?_
        exact hB116 _ _ _ _ _ _ _ _ _ _ _ _ _ e_rowso H_now hfr h
      intro en1 rheld rsecs rhelp rna rout rmiss x2 x3 x4 x5 x6 e_rowso H_now hfr h
      rw [f_X7_go_L62] at h
      refine G_iload hC 5 5 rfl dX7_go_62 ?_
      refine G_if_eq hC 150 dX7_go_64 (by decide) (fun c64 => ?_) (fun c64 => ?_)
      · have h := ifp c64 h
        refine G_iload hC 5 5 rfl dX7_go_150 ?_
        obtain ⟨g152, h⟩ := asr h
        have h := Option.some.inj h
        subst h
        exact Kr _ _ _ _ (nar_b g152) ⟨rfl, e_rowso, hfr⟩ dX7_go_152
      have h := ifn c64 h
      refine G_iload hC 6 6 rfl dX7_go_67 ?_
      refine G_if_le hC 150 dX7_go_69 (by decide) (fun c69 => ?_) (fun c69 => ?_)
      · have h := ifp c69 h
        refine G_iload hC 5 5 rfl dX7_go_150 ?_
        obtain ⟨g152, h⟩ := asr h
        have h := Option.some.inj h
        subst h
        exact Kr _ _ _ _ (nar_b g152) ⟨rfl, e_rowso, hfr⟩ dX7_go_152
      have h := ifn c69 h
      refine G_iload_n hC 3 3 rfl rfl dX7_go_72 ?_
      refine G_iload hC 6 6 rfl dX7_go_73 ?_
      refine G_icmp_lt hC 140 dX7_go_75 (by decide) (fun c75 => ?_) (fun c75 => ?_)
      · have h := ifp c75 h
        refine G_lv [0, 1, 2, 3, 4, 5, 6] rfl ?_
        exact hB140 _ _ _ _ _ _ _ _ _ _ _ _ e_rowso H_now hfr h
      have h := ifn c75 h
      refine G_iload_n hC 3 3 rfl rfl dX7_go_78 ?_
      refine G_iload hC 6 6 rfl dX7_go_79 ?_
      obtain ⟨g81, h⟩ := asn h
      refine G_idiv hC g81 dX7_go_81 ?_
      refine G_bipush hC (v := 10) (by decide) dX7_go_82 ?_
      refine G_irem hC (by decide) dX7_go_84 ?_
      refine G_iconst hC (v := 1) (by decide) dX7_go_85 ?_
      refine G_isub hC dX7_go_86 ?_
      refine G_istore hC 7 [(7, .int ((irm (x3 / x6) (10 : Int32)) - (1 : Int32))), (0, .ref (ad 96)), (1, .ref (ad 1)), (2, .int x2), (3, .int x3), (4, .int x4), (5, .int x5), (6, .int x6)] (by decide) rfl dX7_go_87 ?_
      refine G_aload_n hC 1 2 rfl rfl dX7_go_89 ?_
      refine G_get hC inX1 1 (by omega) (v := .ref (ad (4))) (H_now 0 (by decide)) rfl 1 (by decide) m47 rfl rfl dX7_go_90 ?_
      refine G_iload hC 7 0 rfl dX7_go_93 ?_
      obtain ⟨q95, h95, h⟩ := bnd h
      refine G_cVi (st := []) hC _ (1 + 3) (by omega) (c_X8_holds (pp := 1 + 3) l (by omega) (H_now 3 (by decide)) h95) (cwV 1 hC.hts gX7_go_X8_holds rfl rfl rfl (by decide +kernel) ⟨Nat.le_of_ble_eq_true rfl, Nat.le_of_ble_eq_true rfl⟩) (H_now 3 (by decide)) rfl rfl (Nat.le_of_ble_eq_true rfl) (Nat.zero_le _) (Nat.zero_le _) rfl dX7_go_95 (fun r95 enx hw => ?_)
      obtain ⟨rfl, rfl⟩ := hw
      refine G_if_eq hC 115 dX7_go_98 (by decide) (fun c98 => ?_) (fun c98 => ?_)
      · have h := ifp c98 h
        refine G_lv [1, 2, 3, 4, 5, 7, 0] rfl ?_
        exact hB115 _ _ _ _ _ _ _ _ _ _ _ _ e_rowso H_now hfr h
      have h := ifn c98 h
      refine G_iload hC 4 5 rfl dX7_go_101 ?_
      refine G_iload hC 7 0 rfl dX7_go_103 ?_
      obtain ⟨q105, h105, h⟩ := bnd h
      refine G_cNi (st := []) hC _ (c_X10_isIn  l  h105) ⟨va_cnB 2 hC.hts gX7_go_X10_isIn_n57 rfl rfl rfl (hC.2.2.2.1 ("TongueTip$Rows", 57, yX10_isIn, "TongueTip") (List.mem_of_getElem? (i := 10) rfl)) (hC.hts _ zi_X10_isIn) (by decide +kernel) ⟨Nat.le_of_ble_eq_true rfl, Nat.le_of_ble_eq_true rfl⟩, hC.hts _ zs_X10_isIn, trivial⟩ rfl (Nat.le_of_ble_eq_true rfl) (Nat.zero_le _) (Nat.zero_le _) rfl dX7_go_105 (fun r105 enx hw => ?_)
      obtain ⟨rfl, rfl⟩ := hw
      refine G_if_ne hC 115 dX7_go_108 (by decide) (fun c108 => ?_) (fun c108 => ?_)
      · have h := ifn c108 h
        refine G_lv [1, 2, 3, 4, 5, 7, 0] rfl ?_
        exact hB115 _ _ _ _ _ _ _ _ _ _ _ _ e_rowso H_now hfr h
      have h := ifp c108 h
      refine G_iconst hC (v := 1) (by decide) dX7_go_111 ?_
      refine G_goto hC 116 dX7_go_112 (by decide) ?_
      refine G_lv [1, 2, 3, 4, 5, 7, 0] rfl ?_
      exact hB116 _ _ _ _ _ _ _ _ _ _ _ _ _ e_rowso H_now hfr h
  have hB55 : ∀ (en1 : Nat → va_E) (rheld : Int32) (rsecs : Int32) (rhelp : Int32) (rna : Int32) (rout : Int32) (rmiss : Int64) (x2 : Int32) (x3 : Int32) (x4 : Int32) (s0 : Int32), en1 96 = .inr (4, [.ref (ad 97), .int rheld, .int rsecs, .int rhelp, .int rna, .int rout, .long rmiss]) → Hall cs ad en1 1 now → (∀ j, (j < 96 ∨ 97 ≤ j) → en1 j = en j) → f_X7_go_B55 now rheld rsecs rhelp rna rout rmiss x2 x3 x4 s0 = some q → G p l e ({ frames := 4, cells := 0, slots := 0, locals := 96 } : Room) s m args below meth c D n ad A 8 0 0 Q en1 55 [(0, .ref (ad 96)), (1, .ref (ad 1)), (2, .int x2), (3, .int x3), (4, .int x4)] [.int s0] := by
    intro en1 rheld rsecs rhelp rna rout rmiss x2 x3 x4 s0 e_rowso H_now hfr h
    unfold f_X7_go_B55 at h
    refine G_istore hC 5 [(5, .int s0), (0, .ref (ad 96)), (1, .ref (ad 1)), (2, .int x2), (3, .int x3), (4, .int x4)] (by decide) rfl dX7_go_55 ?_
    refine G_sipush hC (v := 10000) (by decide) dX7_go_57 ?_
    refine G_istore hC 6 [(6, .int (10000 : Int32)), (5, .int s0), (0, .ref (ad 96)), (1, .ref (ad 1)), (2, .int x2), (3, .int x3), (4, .int x4)] (by decide) rfl dX7_go_60 ?_
    refine G_lv [2, 3, 4, 5, 6, 1, 0] rfl ?_
    exact hL62 FU _ _ _ _ _ _ _ _ _ _ _ _ e_rowso H_now hfr h
  have hB54 : ∀ (en1 : Nat → va_E) (rheld : Int32) (rsecs : Int32) (rhelp : Int32) (rna : Int32) (rout : Int32) (rmiss : Int64) (x2 : Int32) (x3 : Int32) (x4 : Int32), en1 96 = .inr (4, [.ref (ad 97), .int rheld, .int rsecs, .int rhelp, .int rna, .int rout, .long rmiss]) → Hall cs ad en1 1 now → (∀ j, (j < 96 ∨ 97 ≤ j) → en1 j = en j) → f_X7_go_B54 now rheld rsecs rhelp rna rout rmiss x2 x3 x4 = some q → G p l e ({ frames := 4, cells := 0, slots := 0, locals := 96 } : Room) s m args below meth c D n ad A 8 0 0 Q en1 54 [(0, .ref (ad 96)), (1, .ref (ad 1)), (2, .int x2), (3, .int x3), (4, .int x4)] [] := by
    intro en1 rheld rsecs rhelp rna rout rmiss x2 x3 x4 e_rowso H_now hfr h
    unfold f_X7_go_B54 at h
    refine G_iconst hC (v := 0) (by decide) dX7_go_54 ?_
    refine G_lv [0, 1, 2, 3, 4] rfl ?_
    exact hB55 _ _ _ _ _ _ _ _ _ _ _ e_rowso H_now hfr h
  unfold f_X7_go at h
  have hfr : ∀ j, (j < 96 ∨ 97 ≤ j) → en j = en j := fun _ _ => rfl
  refine G_aload_n hC 0 0 rfl rfl dX7_go_0 ?_
  refine G_aload_n hC 1 1 rfl rfl dX7_go_1 ?_
  refine G_iload_n hC 2 2 rfl rfl dX7_go_2 ?_
  refine G_iconst hC (v := 0) (by decide) dX7_go_3 ?_
  obtain ⟨q4, h4, h⟩ := bnd h
  refine G_cVi (st := [.ref (ad 96)]) hC _ 1 (by omega) (c_X1_strengthLeft (kk := 1) l (by omega) H_now h4) (cwV 2 hC.hts gX7_go_X1_strengthLeft rfl rfl rfl (by decide +kernel) ⟨Nat.le_of_ble_eq_true rfl, Nat.le_of_ble_eq_true rfl⟩) (H_now 0 (by decide)) rfl rfl (Nat.le_of_ble_eq_true rfl) (Nat.zero_le _) (Nat.zero_le _) rfl dX7_go_4 (fun r4 enx hw => ?_)
  obtain ⟨rfl, rfl⟩ := hw
  refine G_put hC inX7 tyX7 tyX7_ok nmX7 96 (by omega) e_rowso rfl 1 (by decide) m33 rfl rfl (ty := .int) rfl rfl rfl (Nat.le_of_ble_eq_true rfl) dX7_go_7 (fun en2 e_rowso fr => ?_)
  have e_rowso : en2 96 = .inr (4, [.ref (ad 97), .int q4, .int rsecs, .int rhelp, .int rna, .int rout, .long rmiss]) := e_rowso
  have H_now := H_now.fr (fun j h1 h2 => fr j (by omega))
  have hfr : ∀ j, (j < 96 ∨ 97 ≤ j) → en2 j = en j := fun j o0 => (fr j (by omega)).trans (hfr j o0)
  refine G_aload_n hC 0 0 rfl rfl dX7_go_10 ?_
  refine G_iconst hC (v := 0) (by decide) dX7_go_11 ?_
  refine G_put hC inX7 tyX7 tyX7_ok nmX7 96 (by omega) e_rowso rfl 2 (by decide) m17 rfl rfl (ty := .int) rfl rfl rfl (Nat.le_of_ble_eq_true rfl) dX7_go_12 (fun en3 e_rowso fr => ?_)
  have e_rowso : en3 96 = .inr (4, [.ref (ad 97), .int q4, .int (0 : Int32), .int rhelp, .int rna, .int rout, .long rmiss]) := e_rowso
  have H_now := H_now.fr (fun j h1 h2 => fr j (by omega))
  have hfr : ∀ j, (j < 96 ∨ 97 ≤ j) → en3 j = en j := fun j o0 => (fr j (by omega)).trans (hfr j o0)
  refine G_aload_n hC 0 0 rfl rfl dX7_go_15 ?_
  refine G_iconst hC (v := 0) (by decide) dX7_go_16 ?_
  refine G_put hC inX7 tyX7 tyX7_ok nmX7 96 (by omega) e_rowso rfl 3 (by decide) m36 rfl rfl (ty := .int) rfl rfl rfl (Nat.le_of_ble_eq_true rfl) dX7_go_17 (fun en4 e_rowso fr => ?_)
  have e_rowso : en4 96 = .inr (4, [.ref (ad 97), .int q4, .int (0 : Int32), .int (0 : Int32), .int rna, .int rout, .long rmiss]) := e_rowso
  have H_now := H_now.fr (fun j h1 h2 => fr j (by omega))
  have hfr : ∀ j, (j < 96 ∨ 97 ≤ j) → en4 j = en j := fun j o0 => (fr j (by omega)).trans (hfr j o0)
  refine G_aload_n hC 0 0 rfl rfl dX7_go_20 ?_
  refine G_iconst hC (v := 0) (by decide) dX7_go_21 ?_
  refine G_put hC inX7 tyX7 tyX7_ok nmX7 96 (by omega) e_rowso rfl 4 (by decide) m39 rfl rfl (ty := .boolean) rfl (by decide) (by decide) (Nat.le_of_ble_eq_true rfl) dX7_go_22 (fun en5 e_rowso fr => ?_)
  have e_rowso : en5 96 = .inr (4, [.ref (ad 97), .int q4, .int (0 : Int32), .int (0 : Int32), .int (0 : Int32), .int rout, .long rmiss]) := e_rowso
  have H_now := H_now.fr (fun j h1 h2 => fr j (by omega))
  have hfr : ∀ j, (j < 96 ∨ 97 ≤ j) → en5 j = en j := fun j o0 => (fr j (by omega)).trans (hfr j o0)
  refine G_aload_n hC 0 0 rfl rfl dX7_go_25 ?_
  refine G_iconst hC (v := 0) (by decide) dX7_go_26 ?_
  refine G_put hC inX7 tyX7 tyX7_ok nmX7 96 (by omega) e_rowso rfl 5 (by decide) m43 rfl rfl (ty := .boolean) rfl (by decide) (by decide) (Nat.le_of_ble_eq_true rfl) dX7_go_27 (fun en6 e_rowso fr => ?_)
  have e_rowso : en6 96 = .inr (4, [.ref (ad 97), .int q4, .int (0 : Int32), .int (0 : Int32), .int (0 : Int32), .int (0 : Int32), .long rmiss]) := e_rowso
  have H_now := H_now.fr (fun j h1 h2 => fr j (by omega))
  have hfr : ∀ j, (j < 96 ∨ 97 ≤ j) → en6 j = en j := fun j o0 => (fr j (by omega)).trans (hfr j o0)
  refine G_aload_n hC 0 0 rfl rfl dX7_go_30 ?_
  refine G_ldc2 hC (v := (10240000000000)) k21 dX7_go_31 ?_
  refine G_put hC inX7 tyX7 tyX7_ok nmX7 96 (by omega) e_rowso rfl 6 (by decide) m23 rfl rfl (ty := .long) rfl rfl rfl (Nat.le_of_ble_eq_true rfl) dX7_go_34 (fun en7 e_rowso fr => ?_)
  have e_rowso : en7 96 = .inr (4, [.ref (ad 97), .int q4, .int (0 : Int32), .int (0 : Int32), .int (0 : Int32), .int (0 : Int32), .long (10240000000000 : Int64)]) := e_rowso
  have H_now := H_now.fr (fun j h1 h2 => fr j (by omega))
  have hfr : ∀ j, (j < 96 ∨ 97 ≤ j) → en7 j = en j := fun j o0 => (fr j (by omega)).trans (hfr j o0)
  refine G_iconst hC (v := 0) (by decide) dX7_go_37 ?_
  refine G_istore hC 4 [(4, .int (0 : Int32)), (0, .ref (ad 96)), (1, .ref (ad 1)), (2, .int x2), (3, .int x3)] (by decide) rfl dX7_go_38 ?_
  refine G_iload_n hC 3 4 rfl rfl dX7_go_40 ?_
  refine G_if_lt hC 54 dX7_go_41 (by decide) (fun c41 => ?_) (fun c41 => ?_)
  · have h := ifp c41 h
    refine G_lv [1, 2, 3, 4, 0] rfl ?_
    exact hB54 _ _ _ _ _ _ _ _ _ _ e_rowso H_now hfr h
  have h := ifn c41 h
  refine G_iload_n hC 3 4 rfl rfl dX7_go_44 ?_
  refine G_ldc hC (v := (54321)) k46 dX7_go_45 ?_
  refine G_icmp_gt hC 54 dX7_go_47 (by decide) (fun c47 => ?_) (fun c47 => ?_)
  · have h := ifp c47 h
    refine G_lv [1, 2, 3, 4, 0] rfl ?_
    exact hB54 _ _ _ _ _ _ _ _ _ _ e_rowso H_now hfr h
  have h := ifn c47 h
  refine G_iconst hC (v := 1) (by decide) dX7_go_50 ?_
  refine G_goto hC 55 dX7_go_51 (by decide) ?_
  refine G_lv [1, 2, 3, 4, 0] rfl ?_
  exact hB55 _ _ _ _ _ _ _ _ _ _ _ e_rowso H_now hfr h
def f_X7_bestOf_B94 (now : HallV) (rall : Nat → Int32) (rL11 : Int32 → Int32 → Int32 → Int32 → Int32 → Int64 → Int32 → Int32 → Int32 → Int32 → Int64 → Int32 → Option (Int32 × Int32 × Int32 × Int32 × Int32 × Int32 × Int64)) (rheld : Int32) (rsecs : Int32) (rhelp : Int32) (rna : Int32) (rout : Int32) (rmiss : Int64) (x2 : Int32) (x3 : Int32) (x4 : Int32) (x5 : Int32) (x6 : Int64) (x8 : Int32) : Option (Int32 × Int32 × Int32 × Int32 × Int32 × Int32 × Int64) := rL11 rheld rsecs rhelp rna rout rmiss x2 x3 x4 x5 x6 (x8 + (1 : Int32))
def f_X7_bestOf_B62 (now : HallV) (rall : Nat → Int32) (rL11 : Int32 → Int32 → Int32 → Int32 → Int32 → Int64 → Int32 → Int32 → Int32 → Int32 → Int64 → Int32 → Option (Int32 × Int32 × Int32 × Int32 × Int32 × Int32 × Int64)) (rheld : Int32) (rsecs : Int32) (rhelp : Int32) (rna : Int32) (rout : Int32) (rmiss : Int64) (x2 : Int32) (x3 : Int32) (x4 : Int32) (x5 : Int32) (x6 : Int64) (x8 : Int32) (s0 : Int32) : Option (Int32 × Int32 × Int32 × Int32 × Int32 × Int32 × Int64) := if s0 = 0 then (f_X7_bestOf_B94 now rall rL11 rheld rsecs rhelp rna rout rmiss x2 x3 x4 x5 x6 x8) else (if 0 ≤ lg_cmp rmiss x6 then (f_X7_bestOf_B94 now rall rL11 rheld rsecs rhelp rna rout rmiss x2 x3 x4 x5 x6 x8) else (if x8 < 0 ∨ 326 ≤ x8.toNatClampNeg then none else (f_X7_bestOf_B94 now rall rL11 rheld rsecs rhelp rna rout rmiss x2 x3 x4 (rall x8.toNatClampNeg) rmiss x8)))
def f_X7_bestOf_B61 (now : HallV) (rall : Nat → Int32) (rL11 : Int32 → Int32 → Int32 → Int32 → Int32 → Int64 → Int32 → Int32 → Int32 → Int32 → Int64 → Int32 → Option (Int32 × Int32 × Int32 × Int32 × Int32 × Int32 × Int64)) (rheld : Int32) (rsecs : Int32) (rhelp : Int32) (rna : Int32) (rout : Int32) (rmiss : Int64) (x2 : Int32) (x3 : Int32) (x4 : Int32) (x5 : Int32) (x6 : Int64) (x8 : Int32) : Option (Int32 × Int32 × Int32 × Int32 × Int32 × Int32 × Int64) := f_X7_bestOf_B62 now rall rL11 rheld rsecs rhelp rna rout rmiss x2 x3 x4 x5 x6 x8 (0 : Int32)
def f_X7_bestOf_B57 (now : HallV) (rall : Nat → Int32) (rL11 : Int32 → Int32 → Int32 → Int32 → Int32 → Int64 → Int32 → Int32 → Int32 → Int32 → Int64 → Int32 → Option (Int32 × Int32 × Int32 × Int32 × Int32 × Int32 × Int64)) (rheld : Int32) (rsecs : Int32) (rhelp : Int32) (rna : Int32) (rout : Int32) (rmiss : Int64) (x2 : Int32) (x3 : Int32) (x4 : Int32) (x5 : Int32) (x6 : Int64) (x8 : Int32) : Option (Int32 × Int32 × Int32 × Int32 × Int32 × Int32 × Int64) := f_X7_bestOf_B62 now rall rL11 rheld rsecs rhelp rna rout rmiss x2 x3 x4 x5 x6 x8 (1 : Int32)
def f_X7_bestOf_L11 (now : HallV) (rall : Nat → Int32)  : Nat → Int32 → Int32 → Int32 → Int32 → Int32 → Int64 → Int32 → Int32 → Int32 → Int32 → Int64 → Int32 → Option (Int32 × Int32 × Int32 × Int32 × Int32 × Int32 × Int64)
  | 0, _, _, _, _, _, _, _, _, _, _, _, _ => none
  | fu + 1, rheld, rsecs, rhelp, rna, rout, rmiss, x2, x3, x4, x5, x6, x8 => if Int32.ofNat 326 ≤ x8 then (some (x5, rheld, rsecs, rhelp, rna, rout, rmiss)) else (if x8 < 0 ∨ 326 ≤ x8.toNatClampNeg then none else (Option.bind (f_X7_go now rheld rsecs rhelp rna rout rmiss x2 (rall x8.toNatClampNeg)) (fun q31 => if q31.1 = 0 then (f_X7_bestOf_B61 now rall (f_X7_bestOf_L11 now rall fu) q31.2.1 q31.2.2.1 q31.2.2.2.1 q31.2.2.2.2.1 q31.2.2.2.2.2.1 q31.2.2.2.2.2.2 x2 x3 x4 x5 x6 x8) else (if x3 < q31.2.2.1 then (f_X7_bestOf_B61 now rall (f_X7_bestOf_L11 now rall fu) q31.2.1 q31.2.2.1 q31.2.2.2.1 q31.2.2.2.2.1 q31.2.2.2.2.2.1 q31.2.2.2.2.2.2 x2 x3 x4 x5 x6 x8) else (if x4 = 0 then (if q31.2.2.2.2.2.1 = 0 then (f_X7_bestOf_B57 now rall (f_X7_bestOf_L11 now rall fu) q31.2.1 q31.2.2.1 q31.2.2.2.1 q31.2.2.2.2.1 q31.2.2.2.2.2.1 q31.2.2.2.2.2.2 x2 x3 x4 x5 x6 x8) else (f_X7_bestOf_B61 now rall (f_X7_bestOf_L11 now rall fu) q31.2.1 q31.2.2.1 q31.2.2.2.1 q31.2.2.2.2.1 q31.2.2.2.2.2.1 q31.2.2.2.2.2.2 x2 x3 x4 x5 x6 x8)) else (f_X7_bestOf_B57 now rall (f_X7_bestOf_L11 now rall fu) q31.2.1 q31.2.2.1 q31.2.2.2.1 q31.2.2.2.2.1 q31.2.2.2.2.2.1 q31.2.2.2.2.2.2 x2 x3 x4 x5 x6 x8))))))
def f_X7_bestOf (now : HallV) (rall : Nat → Int32) (rheld : Int32) (rsecs : Int32) (rhelp : Int32) (rna : Int32) (rout : Int32) (rmiss : Int64) (x2 : Int32) (x3 : Int32) (x4 : Int32) : Option (Int32 × Int32 × Int32 × Int32 × Int32 × Int32 × Int64) := f_X7_bestOf_L11 now rall FU rheld rsecs rhelp rna rout rmiss x2 x3 x4 (0 : Int32) (10240000000000 : Int64) (0 : Int32)
set_option maxHeartbeats 4000000 in
set_option maxRecDepth 100000 in
theorem c_X7_bestOf {D : va_G} {cs : Nat → ClassId} {sa : Nat → Nat} {n : Nat} {ad : Nat → Nat} {A : Nat → Prop} (l : Launch) {en : Nat → va_E}  {now : HallV} {rall : Nat → Int32} {rheld : Int32} {rsecs : Int32} {rhelp : Int32} {rna : Int32} {rout : Int32} {rmiss : Int64} {x2 : Int32} {x3 : Int32} {x4 : Int32}  {q : Int32 × Int32 × Int32 × Int32 × Int32 × Int32 × Int64} (hn : 110 ≤ n) (e_rowso : en 96 = .inr (4, [.ref (ad 97), .int rheld, .int rsecs, .int rhelp, .int rna, .int rout, .long rmiss])) (e_rallarr : en 97 = .inl (cs 1, 326, .inl (rall))) (H_now : Hall cs ad en 1 now) (h : f_X7_bestOf now rall rheld rsecs rhelp rna rout rmiss x2 x3 x4 = some q) : Met l yX7_bestOf wsX7_bestOf { frames := 5, cells := 0, slots := 0, locals := 123 } (va_Pc [.ref (ad 96), .ref (ad 1), .int x2, .int x3, .int x4] (Wd D cs sa n ad A en)) (va_Qi (fun r u => q.1 = r ∧ u 96 = .inr (4, [.ref (ad 97), .int q.2.1, .int q.2.2.1, .int q.2.2.2.1, .int q.2.2.2.2.1, .int q.2.2.2.2.2.1, .long q.2.2.2.2.2.2]) ∧ (∀ j, (j < 96 ∨ 97 ≤ j) → u j = en j)) (Wd D cs sa n ad A) A) 0 0 A := by
  refine G_startI cX7_bestOf 10 [(0, .ref (ad 96)), (1, .ref (ad 1)), (2, .int x2), (3, .int x3), (4, .int x4)] (by decide) rfl (Nat.le_of_ble_eq_true rfl) rfl ?_
  intro p e s m args below meth c Q hC hnm Kr
  have inX7 : ∀ w ∈ u_ws RX7 TX7 7, w ∈ wsX7_bestOf := by decide +kernel
  have k21 : Cond.constantLong RX7 21 (10240000000000) ∈ wsX7_bestOf := by decide +kernel
  have m17 : Cond.fieldLink RX7 17 "TongueTip$Rows" "seconds" "I" ∈ wsX7_bestOf := by decide +kernel
  have m23 : Cond.fieldLink RX7 23 "TongueTip$Rows" "missing" "J" ∈ wsX7_bestOf := by decide +kernel
  have m43 : Cond.fieldLink RX7 43 "TongueTip$Rows" "outright" "Z" ∈ wsX7_bestOf := by decide +kernel
  have m9 : Cond.fieldLink RX7 9 "TongueTip$Rows" "all" "[I" ∈ wsX7_bestOf := by decide +kernel
  have hL11 : ∀ (fu11 : Nat), ∀ (en1 : Nat → va_E) (rheld : Int32) (rsecs : Int32) (rhelp : Int32) (rna : Int32) (rout : Int32) (rmiss : Int64) (x2 : Int32) (x3 : Int32) (x4 : Int32) (x5 : Int32) (x6 : Int64) (x8 : Int32), en1 96 = .inr (4, [.ref (ad 97), .int rheld, .int rsecs, .int rhelp, .int rna, .int rout, .long rmiss]) → en1 97 = .inl (cs 1, 326, .inl (rall)) → Hall cs ad en1 1 now → (∀ j, (j < 96 ∨ 97 ≤ j) → en1 j = en j) → f_X7_bestOf_L11 now rall fu11 rheld rsecs rhelp rna rout rmiss x2 x3 x4 x5 x6 x8 = some q → G p l e ({ frames := 5, cells := 0, slots := 0, locals := 123 } : Room) s m args below meth c D n ad A 10 0 0 Q en1 11 [(0, .ref (ad 96)), (1, .ref (ad 1)), (2, .int x2), (3, .int x3), (4, .int x4), (5, .int x5), (6, .long x6), (8, .int x8)] [] := by
    intro fu11
    induction fu11 with
    | zero =>
      intro en1 rheld rsecs rhelp rna rout rmiss x2 x3 x4 x5 x6 x8 e_rowso e_rallarr H_now hfr h
      rw [f_X7_bestOf_L11] at h
      cases h
    | succ fu11 ih11 =>
      have hB94 : ∀ (en1 : Nat → va_E) (rheld : Int32) (rsecs : Int32) (rhelp : Int32) (rna : Int32) (rout : Int32) (rmiss : Int64) (x2 : Int32) (x3 : Int32) (x4 : Int32) (x5 : Int32) (x6 : Int64) (x8 : Int32), en1 96 = .inr (4, [.ref (ad 97), .int rheld, .int rsecs, .int rhelp, .int rna, .int rout, .long rmiss]) → en1 97 = .inl (cs 1, 326, .inl (rall)) → Hall cs ad en1 1 now → (∀ j, (j < 96 ∨ 97 ≤ j) → en1 j = en j) → f_X7_bestOf_B94 now rall (f_X7_bestOf_L11 now rall fu11) rheld rsecs rhelp rna rout rmiss x2 x3 x4 x5 x6 x8 = some q → G p l e ({ frames := 5, cells := 0, slots := 0, locals := 123 } : Room) s m args below meth c D n ad A 10 0 0 Q en1 94 [(0, .ref (ad 96)), (1, .ref (ad 1)), (2, .int x2), (3, .int x3), (4, .int x4), (5, .int x5), (6, .long x6), (8, .int x8)] [] := by
        intro en1 rheld rsecs rhelp rna rout rmiss x2 x3 x4 x5 x6 x8 e_rowso e_rallarr H_now hfr h
        unfold f_X7_bestOf_B94 at h
        refine G_iinc hC 8 7 [(8, .int (x8 + (1 : Int32))), (0, .ref (ad 96)), (1, .ref (ad 1)), (2, .int x2), (3, .int x3), (4, .int x4), (5, .int x5), (6, .long x6)] rfl rfl (by decide) rfl dX7_bestOf_94 ?_
        refine G_goto hC 11 dX7_bestOf_97 (by decide) ?_
        refine G_lv [1, 2, 3, 4, 5, 6, 7, 0] rfl ?_
        exact ih11 _ _ _ _ _ _ _ _ _ _ _ _ _ e_rowso e_rallarr H_now hfr h
      have hB62 : ∀ (en1 : Nat → va_E) (rheld : Int32) (rsecs : Int32) (rhelp : Int32) (rna : Int32) (rout : Int32) (rmiss : Int64) (x2 : Int32) (x3 : Int32) (x4 : Int32) (x5 : Int32) (x6 : Int64) (x8 : Int32) (s0 : Int32), en1 96 = .inr (4, [.ref (ad 97), .int rheld, .int rsecs, .int rhelp, .int rna, .int rout, .long rmiss]) → en1 97 = .inl (cs 1, 326, .inl (rall)) → Hall cs ad en1 1 now → (∀ j, (j < 96 ∨ 97 ≤ j) → en1 j = en j) → f_X7_bestOf_B62 now rall (f_X7_bestOf_L11 now rall fu11) rheld rsecs rhelp rna rout rmiss x2 x3 x4 x5 x6 x8 s0 = some q → G p l e ({ frames := 5, cells := 0, slots := 0, locals := 123 } : Room) s m args below meth c D n ad A 10 0 0 Q en1 62 [(0, .ref (ad 96)), (1, .ref (ad 1)), (2, .int x2), (3, .int x3), (4, .int x4), (5, .int x5), (6, .long x6), (8, .int x8)] [.int s0] := by
        intro en1 rheld rsecs rhelp rna rout rmiss x2 x3 x4 x5 x6 x8 s0 e_rowso e_rallarr H_now hfr h
        unfold f_X7_bestOf_B62 at h
        refine G_istore hC 9 [(9, .int s0), (0, .ref (ad 96)), (1, .ref (ad 1)), (2, .int x2), (3, .int x3), (4, .int x4), (5, .int x5), (6, .long x6), (8, .int x8)] (by decide) rfl dX7_bestOf_62 ?_
        refine G_iload hC 9 0 rfl dX7_bestOf_64 ?_
        refine G_if_eq hC 94 dX7_bestOf_66 (by decide) (fun c66 => ?_) (fun c66 => ?_)
        · have h := ifp c66 h
          refine G_lv [1, 2, 3, 4, 5, 6, 7, 8] rfl ?_
          exact hB94 _ _ _ _ _ _ _ _ _ _ _ _ _ e_rowso e_rallarr H_now hfr h
        have h := ifn c66 h
        refine G_aload_n hC 0 1 rfl rfl dX7_bestOf_69 ?_
        refine G_get hC inX7 96 (by omega) (v := .long rmiss) e_rowso rfl 6 (by decide) m23 rfl rfl dX7_bestOf_70 ?_
        refine G_lload hC 6 7 rfl dX7_bestOf_73 ?_
        refine G_lcmp hC dX7_bestOf_75 ?_
        refine G_if_ge hC 94 dX7_bestOf_76 (by decide) (fun c76 => ?_) (fun c76 => ?_)
        · have h := ifp c76 h
          refine G_lv [1, 2, 3, 4, 5, 6, 7, 8] rfl ?_
          exact hB94 _ _ _ _ _ _ _ _ _ _ _ _ _ e_rowso e_rallarr H_now hfr h
        have h := ifn c76 h
        refine G_aload_n hC 0 1 rfl rfl dX7_bestOf_79 ?_
        refine G_get hC inX7 96 (by omega) (v := .ref (ad 97)) e_rowso rfl 0 (by decide) m9 rfl rfl dX7_bestOf_80 ?_
        refine G_iload hC 8 8 rfl dX7_bestOf_83 ?_
        obtain ⟨g85, h⟩ := asn h
        refine G_iald hC 97 (by omega) e_rallarr g85 dX7_bestOf_85 ?_
        refine G_istore hC 5 [(5, .int (rall x8.toNatClampNeg)), (9, .int s0), (0, .ref (ad 96)), (1, .ref (ad 1)), (2, .int x2), (3, .int x3), (4, .int x4), (6, .long x6), (8, .int x8)] (by decide) rfl dX7_bestOf_86 ?_
        refine G_aload_n hC 0 2 rfl rfl dX7_bestOf_88 ?_
        refine G_get hC inX7 96 (by omega) (v := .long rmiss) e_rowso rfl 6 (by decide) m23 rfl rfl dX7_bestOf_89 ?_
        refine G_lstore hC 6 [(6, .long rmiss), (5, .int (rall x8.toNatClampNeg)), (9, .int s0), (0, .ref (ad 96)), (1, .ref (ad 1)), (2, .int x2), (3, .int x3), (4, .int x4), (8, .int x8)] (by decide) rfl dX7_bestOf_92 ?_
        refine G_lv [3, 4, 5, 6, 7, 1, 0, 8] rfl ?_
        exact hB94 _ _ _ _ _ _ _ _ _ _ _ _ _ e_rowso e_rallarr H_now hfr h
      have hB61 : ∀ (en1 : Nat → va_E) (rheld : Int32) (rsecs : Int32) (rhelp : Int32) (rna : Int32) (rout : Int32) (rmiss : Int64) (x2 : Int32) (x3 : Int32) (x4 : Int32) (x5 : Int32) (x6 : Int64) (x8 : Int32), en1 96 = .inr (4, [.ref (ad 97), .int rheld, .int rsecs, .int rhelp, .int rna, .int rout, .long rmiss]) → en1 97 = .inl (cs 1, 326, .inl (rall)) → Hall cs ad en1 1 now → (∀ j, (j < 96 ∨ 97 ≤ j) → en1 j = en j) → f_X7_bestOf_B61 now rall (f_X7_bestOf_L11 now rall fu11) rheld rsecs rhelp rna rout rmiss x2 x3 x4 x5 x6 x8 = some q → G p l e ({ frames := 5, cells := 0, slots := 0, locals := 123 } : Room) s m args below meth c D n ad A 10 0 0 Q en1 61 [(0, .ref (ad 96)), (1, .ref (ad 1)), (2, .int x2), (3, .int x3), (4, .int x4), (5, .int x5), (6, .long x6), (8, .int x8)] [] := by
        intro en1 rheld rsecs rhelp rna rout rmiss x2 x3 x4 x5 x6 x8 e_rowso e_rallarr H_now hfr h
        unfold f_X7_bestOf_B61 at h
        refine G_iconst hC (v := 0) (by decide) dX7_bestOf_61 ?_
        refine G_lv [0, 1, 2, 3, 4, 5, 6, 7] rfl ?_
        exact hB62 _ _ _ _ _ _ _ _ _ _ _ _ _ _ e_rowso e_rallarr H_now hfr h
      have hB57 : ∀ (en1 : Nat → va_E) (rheld : Int32) (rsecs : Int32) (rhelp : Int32) (rna : Int32) (rout : Int32) (rmiss : Int64) (x2 : Int32) (x3 : Int32) (x4 : Int32) (x5 : Int32) (x6 : Int64) (x8 : Int32), en1 96 = .inr (4, [.ref (ad 97), .int rheld, .int rsecs, .int rhelp, .int rna, .int rout, .long rmiss]) → en1 97 = .inl (cs 1, 326, .inl (rall)) → Hall cs ad en1 1 now → (∀ j, (j < 96 ∨ 97 ≤ j) → en1 j = en j) → f_X7_bestOf_B57 now rall (f_X7_bestOf_L11 now rall fu11) rheld rsecs rhelp rna rout rmiss x2 x3 x4 x5 x6 x8 = some q → G p l e ({ frames := 5, cells := 0, slots := 0, locals := 123 } : Room) s m args below meth c D n ad A 10 0 0 Q en1 57 [(0, .ref (ad 96)), (1, .ref (ad 1)), (2, .int x2), (3, .int x3), (4, .int x4), (5, .int x5), (6, .long x6), (8, .int x8)] [] := by
        intro en1 rheld rsecs rhelp rna rout rmiss x2 x3 x4 x5 x6 x8 e_rowso e_rallarr H_now hfr h
        unfold f_X7_bestOf_B57 at h
        refine G_iconst hC (v := 1) (by decide) dX7_bestOf_57 ?_
        refine G_goto hC 62 dX7_bestOf_58 (by decide) ?_
        refine G_lv [0, 1, 2, 3, 4, 5, 6, 7] rfl ?_
        exact hB62 _ _ _ _ _ _ _ _ _ _ _ _ _ _ e_rowso e_rallarr H_now hfr h
      intro en1 rheld rsecs rhelp rna rout rmiss x2 x3 x4 x5 x6 x8 e_rowso e_rallarr H_now hfr h
      rw [f_X7_bestOf_L11] at h
      refine G_iload hC 8 7 rfl dX7_bestOf_11 ?_
      refine G_aload_n hC 0 0 rfl rfl dX7_bestOf_13 ?_
      refine G_get hC inX7 96 (by omega) (v := .ref (ad 97)) e_rowso rfl 0 (by decide) m9 rfl rfl dX7_bestOf_14 ?_
      refine G_alen hC 1 97 (by omega) e_rallarr rfl rfl dX7_bestOf_17 ?_
      refine G_icmp_ge hC 100 dX7_bestOf_18 (by decide) (fun c18 => ?_) (fun c18 => ?_)
      · have h := ifp c18 h
        refine G_iload hC 5 5 rfl dX7_bestOf_100 ?_
        have h := Option.some.inj h
        subst h
        exact Kr _ _ _ _ (nar_i _) ⟨rfl, e_rowso, hfr⟩ dX7_bestOf_102
      have h := ifn c18 h
      refine G_aload_n hC 0 0 rfl rfl dX7_bestOf_21 ?_
      refine G_aload_n hC 1 1 rfl rfl dX7_bestOf_22 ?_
      refine G_iload_n hC 2 2 rfl rfl dX7_bestOf_23 ?_
      refine G_aload_n hC 0 0 rfl rfl dX7_bestOf_24 ?_
      refine G_get hC inX7 96 (by omega) (v := .ref (ad 97)) e_rowso rfl 0 (by decide) m9 rfl rfl dX7_bestOf_25 ?_
      refine G_iload hC 8 7 rfl dX7_bestOf_28 ?_
      obtain ⟨g30, h⟩ := asn h
      refine G_iald hC 97 (by omega) e_rallarr g30 dX7_bestOf_30 ?_
      obtain ⟨q31, h31, h⟩ := bnd h
      refine G_cVi (st := []) hC _ 96 (by omega) (c_X7_go  l (by omega) e_rowso H_now h31) (cwV 3 hC.hts gX7_bestOf_X7_go rfl rfl rfl (by decide +kernel) ⟨Nat.le_of_ble_eq_true rfl, Nat.le_of_ble_eq_true rfl⟩) e_rowso rfl rfl (Nat.le_of_ble_eq_true rfl) (Nat.zero_le _) (Nat.zero_le _) rfl dX7_bestOf_31 (fun r31 en2 hw => ?_)
      obtain ⟨rfl, e_rowso, fr⟩ := hw
      have e_rallarr := (fr 97 (by omega)).trans e_rallarr
      have H_now := H_now.fr (fun j h1 h2 => fr j (by omega))
      have hfr : ∀ j, (j < 96 ∨ 97 ≤ j) → en2 j = en j := fun j o0 => (fr j (by omega)).trans (hfr j o0)
      refine G_if_eq hC 61 dX7_bestOf_34 (by decide) (fun c34 => ?_) (fun c34 => ?_)
      · have h := ifp c34 h
        refine G_lv [0, 1, 2, 3, 4, 5, 6, 7] rfl ?_
        exact hB61 _ _ _ _ _ _ _ _ _ _ _ _ _ e_rowso e_rallarr H_now hfr h
      have h := ifn c34 h
      refine G_aload_n hC 0 0 rfl rfl dX7_bestOf_37 ?_
      refine G_get hC inX7 96 (by omega) (v := .int q31.2.2.1) e_rowso rfl 2 (by decide) m17 rfl rfl dX7_bestOf_38 ?_
      refine G_iload_n hC 3 3 rfl rfl dX7_bestOf_41 ?_
      refine G_icmp_gt hC 61 dX7_bestOf_42 (by decide) (fun c42 => ?_) (fun c42 => ?_)
      · have h := ifp c42 h
        refine G_lv [0, 1, 2, 3, 4, 5, 6, 7] rfl ?_
        exact hB61 _ _ _ _ _ _ _ _ _ _ _ _ _ e_rowso e_rallarr H_now hfr h
      have h := ifn c42 h
      refine G_iload hC 4 4 rfl dX7_bestOf_45 ?_
      refine G_if_ne hC 57 dX7_bestOf_47 (by decide) (fun c47 => ?_) (fun c47 => ?_)
      · have h := ifn c47 h
        refine G_lv [0, 1, 2, 3, 4, 5, 6, 7] rfl ?_
        exact hB57 _ _ _ _ _ _ _ _ _ _ _ _ _ e_rowso e_rallarr H_now hfr h
      have h := ifp c47 h
      refine G_aload_n hC 0 0 rfl rfl dX7_bestOf_50 ?_
      refine G_get hC inX7 96 (by omega) (v := .int q31.2.2.2.2.2.1) e_rowso rfl 5 (by decide) m43 rfl rfl dX7_bestOf_51 ?_
      refine G_if_ne hC 61 dX7_bestOf_54 (by decide) (fun c54 => ?_) (fun c54 => ?_)
      · have h := ifn c54 h
        refine G_lv [0, 1, 2, 3, 4, 5, 6, 7] rfl ?_
        exact hB61 _ _ _ _ _ _ _ _ _ _ _ _ _ e_rowso e_rallarr H_now hfr h
      have h := ifp c54 h
      refine G_lv [0, 1, 2, 3, 4, 5, 6, 7] rfl ?_
      exact hB57 _ _ _ _ _ _ _ _ _ _ _ _ _ e_rowso e_rallarr H_now hfr h
  unfold f_X7_bestOf at h
  have hfr : ∀ j, (j < 96 ∨ 97 ≤ j) → en j = en j := fun _ _ => rfl
  refine G_iconst hC (v := 0) (by decide) dX7_bestOf_0 ?_
  refine G_istore hC 5 [(5, .int (0 : Int32)), (0, .ref (ad 96)), (1, .ref (ad 1)), (2, .int x2), (3, .int x3), (4, .int x4)] (by decide) rfl dX7_bestOf_1 ?_
  refine G_ldc2 hC (v := (10240000000000)) k21 dX7_bestOf_3 ?_
  refine G_lstore hC 6 [(6, .long (10240000000000 : Int64)), (5, .int (0 : Int32)), (0, .ref (ad 96)), (1, .ref (ad 1)), (2, .int x2), (3, .int x3), (4, .int x4)] (by decide) rfl dX7_bestOf_6 ?_
  refine G_iconst hC (v := 0) (by decide) dX7_bestOf_8 ?_
  refine G_istore hC 8 [(8, .int (0 : Int32)), (6, .long (10240000000000 : Int64)), (5, .int (0 : Int32)), (0, .ref (ad 96)), (1, .ref (ad 1)), (2, .int x2), (3, .int x3), (4, .int x4)] (by decide) rfl dX7_bestOf_9 ?_
  refine G_lv [3, 4, 5, 6, 7, 2, 1, 0] rfl ?_
  exact hL11 FU _ _ _ _ _ _ _ _ _ _ _ _ _ e_rowso e_rallarr H_now hfr h
