def f_X10_comes_B30 (now : HallV)  (fab : Int64) (fbe : Int64) (bads : Int32) (noes : Int32) (fulls : Int32) (rheld : Int32) (rsecs : Int32) (rhelp : Int32) (rna : Int32) (rout : Int32) (rmiss : Int64) : Option (Int32 × Int64 × Int64 × Int32 × Int32 × Int32 × Int32 × Int32 × Int32 × Int32 × Int32 × Int64) := Option.bind (f_X10_counted bads noes fulls (-2 : Int32)) (fun q33 => some (q33.1, fab, fbe, q33.2.1, q33.2.2.1, q33.2.2.2, rheld, rsecs, rhelp, rna, rout, rmiss))
def f_X10_comes (fab : Int64) (fbe : Int64) (bads : Int32) (noes : Int32) (fulls : Int32) (now : HallV) (rheld : Int32) (rsecs : Int32) (rhelp : Int32) (rna : Int32) (rout : Int32) (rmiss : Int64) (x1 : Int32) (x2 : Int32) : Option (Int32 × Int64 × Int64 × Int32 × Int32 × Int32 × Int32 × Int32 × Int32 × Int32 × Int32 × Int64) := Option.bind (f_X8_holds (now.1 0) x1) (fun q8 => if q8 = 0 then (f_X10_comes_B30 now fab fbe bads noes fulls rheld rsecs rhelp rna rout rmiss) else (Option.bind (f_X7_go now rheld rsecs rhelp rna rout rmiss x1 x2) (fun q24 => if q24.1 = 0 then (f_X10_comes_B30 now fab fbe bads noes fulls q24.2.1 q24.2.2.1 q24.2.2.2.1 q24.2.2.2.2.1 q24.2.2.2.2.2.1 q24.2.2.2.2.2.2) else (Option.bind (f_X7_brings q24.2.2.2.2.2.2) (fun q42 => Option.bind (f_X10_setFraction fab fbe q42 (10240000000000 : Int64)) (fun q48 => Option.bind (f_X7_seconds q24.2.2.1) (fun q55 => some (q55, q48.1, q48.2, bads, noes, fulls, q24.2.1, q24.2.2.1, q24.2.2.2.1, q24.2.2.2.2.1, q24.2.2.2.2.2.1, q24.2.2.2.2.2.2))))))))
set_option maxHeartbeats 4000000 in
set_option maxRecDepth 100000 in
theorem c_X10_comes {D : va_G} {cs : Nat → ClassId} {sa : Nat → Nat} {n : Nat} {ad : Nat → Nat} {A : Nat → Prop} (l : Launch) {en : Nat → va_E}  {keptImages : Int32} {fab : Int64} {fbe : Int64} {bads : Int32} {noes : Int32} {fulls : Int32} {now : HallV} {rheld : Int32} {rsecs : Int32} {rhelp : Int32} {rna : Int32} {rout : Int32} {rmiss : Int64} {x1 : Int32} {x2 : Int32}  {q : Int32 × Int64 × Int64 × Int32 × Int32 × Int32 × Int32 × Int32 × Int32 × Int32 × Int32 × Int64} (hn : 110 ≤ n) (e_tt : en 0 = .inr (7, [.ref (ad 1), .ref (ad 12), .ref (ad 58), .ref (ad 81), .ref (ad 83), .ref (ad 96), .ref (ad 98), .int keptImages, .long fab, .long fbe, .int bads, .int noes, .int fulls])) (e_rowso : en 96 = .inr (4, [.ref (ad 97), .int rheld, .int rsecs, .int rhelp, .int rna, .int rout, .long rmiss])) (H_now : Hall cs ad en 1 now) (h : f_X10_comes fab fbe bads noes fulls now rheld rsecs rhelp rna rout rmiss x1 x2 = some q) : Met l yX10_comes wsX10_comes { frames := 5, cells := 0, slots := 0, locals := 123 } (va_Pc [.ref (ad 0), .int x1, .int x2] (Wd D cs sa n ad A en)) (va_Qi (fun r u => q.1 = r ∧ u 0 = .inr (7, [.ref (ad 1), .ref (ad 12), .ref (ad 58), .ref (ad 81), .ref (ad 83), .ref (ad 96), .ref (ad 98), .int keptImages, .long q.2.1, .long q.2.2.1, .int q.2.2.2.1, .int q.2.2.2.2.1, .int q.2.2.2.2.2.1]) ∧ u 96 = .inr (4, [.ref (ad 97), .int q.2.2.2.2.2.2.1, .int q.2.2.2.2.2.2.2.1, .int q.2.2.2.2.2.2.2.2.1, .int q.2.2.2.2.2.2.2.2.2.1, .int q.2.2.2.2.2.2.2.2.2.2.1, .long q.2.2.2.2.2.2.2.2.2.2.2]) ∧ (∀ j, (j < 0 ∨ 1 ≤ j) → (j < 96 ∨ 97 ≤ j) → u j = en j)) (Wd D cs sa n ad A) A) 0 0 A := by
  refine G_startI cX10_comes 3 [(0, .ref (ad 0)), (1, .int x1), (2, .int x2)] (by decide) rfl (Nat.le_of_ble_eq_true rfl) rfl ?_
  intro p e s m args below meth c Q hC hnm Kr
  have inX1 : ∀ w ∈ u_ws RX1 TX1 6, w ∈ wsX10_comes := by decide +kernel
  have inX10 : ∀ w ∈ u_ws RX10 TX10 13, w ∈ wsX10_comes := by decide +kernel
  have k135 : Cond.constantLong RX10 135 (10240000000000) ∈ wsX10_comes := by decide +kernel
  have m10 : Cond.fieldLink RX10 10 "TongueTip" "now" "LTongueTip$Hall;" ∈ wsX10_comes := by decide +kernel
  have m46 : Cond.fieldLink RX10 46 "TongueTip" "rows" "LTongueTip$Rows;" ∈ wsX10_comes := by decide +kernel
  have m80 : Cond.fieldLink RX10 80 "TongueTip$Hall" "people" "LTongueTip$Table;" ∈ wsX10_comes := by decide +kernel
  have hB30 : ∀ (en1 : Nat → va_E) (fab : Int64) (fbe : Int64) (bads : Int32) (noes : Int32) (fulls : Int32) (rheld : Int32) (rsecs : Int32) (rhelp : Int32) (rna : Int32) (rout : Int32) (rmiss : Int64), en1 0 = .inr (7, [.ref (ad 1), .ref (ad 12), .ref (ad 58), .ref (ad 81), .ref (ad 83), .ref (ad 96), .ref (ad 98), .int keptImages, .long fab, .long fbe, .int bads, .int noes, .int fulls]) → en1 96 = .inr (4, [.ref (ad 97), .int rheld, .int rsecs, .int rhelp, .int rna, .int rout, .long rmiss]) → Hall cs ad en1 1 now → (∀ j, (j < 0 ∨ 1 ≤ j) → (j < 96 ∨ 97 ≤ j) → en1 j = en j) → f_X10_comes_B30 now fab fbe bads noes fulls rheld rsecs rhelp rna rout rmiss = some q → G p l e ({ frames := 5, cells := 0, slots := 0, locals := 123 } : Room) s m args below meth c D n ad A 3 0 0 Q en1 30 [(0, .ref (ad 0))] [] := by
    intro en1 fab fbe bads noes fulls rheld rsecs rhelp rna rout rmiss e_tt e_rowso H_now hfr h
    unfold f_X10_comes_B30 at h
    refine G_aload_n hC 0 0 rfl rfl dX10_comes_30 ?_
    refine G_bipush hC (v := (-2)) (by decide) dX10_comes_31 ?_
    obtain ⟨q33, h33, h⟩ := bnd h
    refine G_cVi (st := []) hC _ 0 (by omega) (c_X10_counted  l (by omega) e_tt h33) (cwV 1 hC.hts gX10_comes_X10_counted rfl rfl rfl (by decide +kernel) ⟨Nat.le_of_ble_eq_true rfl, Nat.le_of_ble_eq_true rfl⟩) e_tt rfl rfl (Nat.le_of_ble_eq_true rfl) (Nat.zero_le _) (Nat.zero_le _) rfl dX10_comes_33 (fun r33 en2 hw => ?_)
    obtain ⟨rfl, e_tt, fr⟩ := hw
    have e_rowso := (fr 96 (by omega)).trans e_rowso
    have H_now := H_now.fr (fun j h1 h2 => fr j (by omega))
    have hfr : ∀ j, (j < 0 ∨ 1 ≤ j) → (j < 96 ∨ 97 ≤ j) → en2 j = en j := fun j o0 o1 => (fr j (by omega)).trans (hfr j o0 o1)
    have h := Option.some.inj h
    subst h
    exact Kr _ _ _ _ (nar_i _) ⟨rfl, e_tt, e_rowso, hfr⟩ dX10_comes_36
  unfold f_X10_comes at h
  have hfr : ∀ j, (j < 0 ∨ 1 ≤ j) → (j < 96 ∨ 97 ≤ j) → en j = en j := fun _ _ _ => rfl
  refine G_aload_n hC 0 0 rfl rfl dX10_comes_0 ?_
  refine G_get hC inX10 0 (by omega) (v := .ref (ad 1)) e_tt rfl 0 (by decide) m10 rfl rfl dX10_comes_1 ?_
  refine G_get hC inX1 1 (by omega) (v := .ref (ad (2))) (H_now 0 (by decide)) rfl 0 (by decide) m80 rfl rfl dX10_comes_4 ?_
  refine G_iload_n hC 1 1 rfl rfl dX10_comes_7 ?_
  obtain ⟨q8, h8, h⟩ := bnd h
  refine G_cVi (st := []) hC _ (1 + 1) (by omega) (c_X8_holds (pp := 1 + 1) l (by omega) (H_now 1 (by decide)) h8) (cwV 1 hC.hts gX10_comes_X8_holds rfl rfl rfl (by decide +kernel) ⟨Nat.le_of_ble_eq_true rfl, Nat.le_of_ble_eq_true rfl⟩) (H_now 1 (by decide)) rfl rfl (Nat.le_of_ble_eq_true rfl) (Nat.zero_le _) (Nat.zero_le _) rfl dX10_comes_8 (fun r8 enx hw => ?_)
  obtain ⟨rfl, rfl⟩ := hw
  refine G_if_eq hC 30 dX10_comes_11 (by decide) (fun c11 => ?_) (fun c11 => ?_)
  · have h := ifp c11 h
    refine G_lv [0] rfl ?_
    exact hB30 _ _ _ _ _ _ _ _ _ _ _ _ e_tt e_rowso H_now hfr h
  have h := ifn c11 h
  refine G_aload_n hC 0 0 rfl rfl dX10_comes_14 ?_
  refine G_get hC inX10 0 (by omega) (v := .ref (ad 96)) e_tt rfl 5 (by decide) m46 rfl rfl dX10_comes_15 ?_
  refine G_aload_n hC 0 0 rfl rfl dX10_comes_18 ?_
  refine G_get hC inX10 0 (by omega) (v := .ref (ad 1)) e_tt rfl 0 (by decide) m10 rfl rfl dX10_comes_19 ?_
  refine G_iload_n hC 1 1 rfl rfl dX10_comes_22 ?_
  refine G_iload_n hC 2 2 rfl rfl dX10_comes_23 ?_
  obtain ⟨q24, h24, h⟩ := bnd h
  refine G_cVi (st := []) hC _ 96 (by omega) (c_X7_go  l (by omega) e_rowso H_now h24) (cwV 3 hC.hts gX10_comes_X7_go rfl rfl rfl (by decide +kernel) ⟨Nat.le_of_ble_eq_true rfl, Nat.le_of_ble_eq_true rfl⟩) e_rowso rfl rfl (Nat.le_of_ble_eq_true rfl) (Nat.zero_le _) (Nat.zero_le _) rfl dX10_comes_24 (fun r24 en2 hw => ?_)
  obtain ⟨rfl, e_rowso, fr⟩ := hw
  have e_tt := (fr 0 (by omega)).trans e_tt
  have H_now := H_now.fr (fun j h1 h2 => fr j (by omega))
  have hfr : ∀ j, (j < 0 ∨ 1 ≤ j) → (j < 96 ∨ 97 ≤ j) → en2 j = en j := fun j o0 o1 => (fr j (by omega)).trans (hfr j o0 o1)
  refine G_if_ne hC 37 dX10_comes_27 (by decide) (fun c27 => ?_) (fun c27 => ?_)
  · have h := ifn c27 h
    refine G_aload_n hC 0 0 rfl rfl dX10_comes_37 ?_
    refine G_aload_n hC 0 0 rfl rfl dX10_comes_38 ?_
    refine G_get hC inX10 0 (by omega) (v := .ref (ad 96)) e_tt rfl 5 (by decide) m46 rfl rfl dX10_comes_39 ?_
    obtain ⟨q42, h42, h⟩ := bnd h
    refine G_cVl (st := [.ref (ad 0)]) hC _ 96 (by omega) (c_X7_brings  l (by omega) e_rowso h42) (cwV 0 hC.hts gX10_comes_X7_brings rfl rfl rfl (by decide +kernel) ⟨Nat.le_of_ble_eq_true rfl, Nat.le_of_ble_eq_true rfl⟩) e_rowso rfl rfl (Nat.le_of_ble_eq_true rfl) (Nat.zero_le _) (Nat.zero_le _) rfl dX10_comes_42 (fun r42 enx hw => ?_)
    obtain ⟨rfl, rfl⟩ := hw
    refine G_ldc2 hC (v := (10240000000000)) k135 dX10_comes_45 ?_
    obtain ⟨q48, h48, h⟩ := bnd h
    refine G_cVv (st := []) hC _ 0 (by omega) (c_X10_setFraction  l (by omega) e_tt h48) (cwV 2 hC.hts gX10_comes_X10_setFraction rfl rfl rfl (by decide +kernel) ⟨Nat.le_of_ble_eq_true rfl, Nat.le_of_ble_eq_true rfl⟩) e_tt rfl rfl (Nat.le_of_ble_eq_true rfl) (Nat.zero_le _) (Nat.zero_le _) rfl dX10_comes_48 (fun en3 hw => ?_)
    obtain ⟨e_tt, fr⟩ := hw
    have e_rowso := (fr 96 (by omega)).trans e_rowso
    have H_now := H_now.fr (fun j h1 h2 => fr j (by omega))
    have hfr : ∀ j, (j < 0 ∨ 1 ≤ j) → (j < 96 ∨ 97 ≤ j) → en3 j = en j := fun j o0 o1 => (fr j (by omega)).trans (hfr j o0 o1)
    refine G_aload_n hC 0 0 rfl rfl dX10_comes_51 ?_
    refine G_get hC inX10 0 (by omega) (v := .ref (ad 96)) e_tt rfl 5 (by decide) m46 rfl rfl dX10_comes_52 ?_
    obtain ⟨q55, h55, h⟩ := bnd h
    refine G_cVi (st := []) hC _ 96 (by omega) (c_X7_seconds  l (by omega) e_rowso h55) (cwV 0 hC.hts gX10_comes_X7_seconds rfl rfl rfl (by decide +kernel) ⟨Nat.le_of_ble_eq_true rfl, Nat.le_of_ble_eq_true rfl⟩) e_rowso rfl rfl (Nat.le_of_ble_eq_true rfl) (Nat.zero_le _) (Nat.zero_le _) rfl dX10_comes_55 (fun r55 enx hw => ?_)
    obtain ⟨rfl, rfl⟩ := hw
    have h := Option.some.inj h
    subst h
    exact Kr _ _ _ _ (nar_i _) ⟨rfl, e_tt, e_rowso, hfr⟩ dX10_comes_58
  have h := ifp c27 h
  refine G_lv [0] rfl ?_
  exact hB30 _ _ _ _ _ _ _ _ _ _ _ _ e_tt e_rowso H_now hfr h
def f_X10_best_B24 (now : HallV) (rall : Nat → Int32)  (fab : Int64) (fbe : Int64) (bads : Int32) (noes : Int32) (fulls : Int32) (rheld : Int32) (rsecs : Int32) (rhelp : Int32) (rna : Int32) (rout : Int32) (rmiss : Int64) : Option (Int32 × Int64 × Int64 × Int32 × Int32 × Int32 × Int32 × Int32 × Int32 × Int32 × Int32 × Int64) := Option.bind (f_X10_counted bads noes fulls (-2 : Int32)) (fun q27 => some (q27.1, fab, fbe, q27.2.1, q27.2.2.1, q27.2.2.2, rheld, rsecs, rhelp, rna, rout, rmiss))
def f_X10_best (fab : Int64) (fbe : Int64) (bads : Int32) (noes : Int32) (fulls : Int32) (now : HallV) (rall : Nat → Int32) (rheld : Int32) (rsecs : Int32) (rhelp : Int32) (rna : Int32) (rout : Int32) (rmiss : Int64) (x1 : Int32) (x2 : Int32) : Option (Int32 × Int64 × Int64 × Int32 × Int32 × Int32 × Int32 × Int32 × Int32 × Int32 × Int32 × Int64) := Option.bind (f_X8_holds (now.1 0) x1) (fun q8 => if q8 = 0 then (f_X10_best_B24 now rall fab fbe bads noes fulls rheld rsecs rhelp rna rout rmiss) else (Option.bind (f_X10_within x2 (0 : Int32) (60 : Int32)) (fun q18 => if q18 = 0 then (f_X10_best_B24 now rall fab fbe bads noes fulls rheld rsecs rhelp rna rout rmiss) else (Option.bind (f_X7_bestOf now rall rheld rsecs rhelp rna rout rmiss x1 x2 (1 : Int32)) (fun q42 => Option.bind (f_X7_go now q42.2.1 q42.2.2.1 q42.2.2.2.1 q42.2.2.2.2.1 q42.2.2.2.2.2.1 q42.2.2.2.2.2.2 x1 q42.1) (fun q56 => Option.bind (f_X7_brings q56.2.2.2.2.2.2) (fun q65 => Option.bind (f_X10_setFraction fab fbe q65 (10240000000000 : Int64)) (fun q71 => some (q42.1, q71.1, q71.2, bads, noes, fulls, q56.2.1, q56.2.2.1, q56.2.2.2.1, q56.2.2.2.2.1, q56.2.2.2.2.2.1, q56.2.2.2.2.2.2)))))))))
set_option maxHeartbeats 4000000 in
set_option maxRecDepth 100000 in
theorem c_X10_best {D : va_G} {cs : Nat → ClassId} {sa : Nat → Nat} {n : Nat} {ad : Nat → Nat} {A : Nat → Prop} (l : Launch) {en : Nat → va_E}  {keptImages : Int32} {fab : Int64} {fbe : Int64} {bads : Int32} {noes : Int32} {fulls : Int32} {now : HallV} {rall : Nat → Int32} {rheld : Int32} {rsecs : Int32} {rhelp : Int32} {rna : Int32} {rout : Int32} {rmiss : Int64} {x1 : Int32} {x2 : Int32}  {q : Int32 × Int64 × Int64 × Int32 × Int32 × Int32 × Int32 × Int32 × Int32 × Int32 × Int32 × Int64} (hn : 110 ≤ n) (e_tt : en 0 = .inr (7, [.ref (ad 1), .ref (ad 12), .ref (ad 58), .ref (ad 81), .ref (ad 83), .ref (ad 96), .ref (ad 98), .int keptImages, .long fab, .long fbe, .int bads, .int noes, .int fulls])) (e_rowso : en 96 = .inr (4, [.ref (ad 97), .int rheld, .int rsecs, .int rhelp, .int rna, .int rout, .long rmiss])) (e_rallarr : en 97 = .inl (cs 1, 326, .inl (rall))) (H_now : Hall cs ad en 1 now) (h : f_X10_best fab fbe bads noes fulls now rall rheld rsecs rhelp rna rout rmiss x1 x2 = some q) : Met l yX10_best wsX10_best { frames := 6, cells := 0, slots := 0, locals := 152 } (va_Pc [.ref (ad 0), .int x1, .int x2] (Wd D cs sa n ad A en)) (va_Qi (fun r u => q.1 = r ∧ u 0 = .inr (7, [.ref (ad 1), .ref (ad 12), .ref (ad 58), .ref (ad 81), .ref (ad 83), .ref (ad 96), .ref (ad 98), .int keptImages, .long q.2.1, .long q.2.2.1, .int q.2.2.2.1, .int q.2.2.2.2.1, .int q.2.2.2.2.2.1]) ∧ u 96 = .inr (4, [.ref (ad 97), .int q.2.2.2.2.2.2.1, .int q.2.2.2.2.2.2.2.1, .int q.2.2.2.2.2.2.2.2.1, .int q.2.2.2.2.2.2.2.2.2.1, .int q.2.2.2.2.2.2.2.2.2.2.1, .long q.2.2.2.2.2.2.2.2.2.2.2]) ∧ (∀ j, (j < 0 ∨ 1 ≤ j) → (j < 96 ∨ 97 ≤ j) → u j = en j)) (Wd D cs sa n ad A) A) 0 0 A := by
  refine G_startI cX10_best 4 [(0, .ref (ad 0)), (1, .int x1), (2, .int x2)] (by decide) rfl (Nat.le_of_ble_eq_true rfl) rfl ?_
  intro p e s m args below meth c Q hC hnm Kr
  have inX1 : ∀ w ∈ u_ws RX1 TX1 6, w ∈ wsX10_best := by decide +kernel
  have inX10 : ∀ w ∈ u_ws RX10 TX10 13, w ∈ wsX10_best := by decide +kernel
  have k135 : Cond.constantLong RX10 135 (10240000000000) ∈ wsX10_best := by decide +kernel
  have m10 : Cond.fieldLink RX10 10 "TongueTip" "now" "LTongueTip$Hall;" ∈ wsX10_best := by decide +kernel
  have m46 : Cond.fieldLink RX10 46 "TongueTip" "rows" "LTongueTip$Rows;" ∈ wsX10_best := by decide +kernel
  have m80 : Cond.fieldLink RX10 80 "TongueTip$Hall" "people" "LTongueTip$Table;" ∈ wsX10_best := by decide +kernel
  have hB24 : ∀ (en1 : Nat → va_E) (fab : Int64) (fbe : Int64) (bads : Int32) (noes : Int32) (fulls : Int32) (rheld : Int32) (rsecs : Int32) (rhelp : Int32) (rna : Int32) (rout : Int32) (rmiss : Int64), en1 0 = .inr (7, [.ref (ad 1), .ref (ad 12), .ref (ad 58), .ref (ad 81), .ref (ad 83), .ref (ad 96), .ref (ad 98), .int keptImages, .long fab, .long fbe, .int bads, .int noes, .int fulls]) → en1 96 = .inr (4, [.ref (ad 97), .int rheld, .int rsecs, .int rhelp, .int rna, .int rout, .long rmiss]) → en1 97 = .inl (cs 1, 326, .inl (rall)) → Hall cs ad en1 1 now → (∀ j, (j < 0 ∨ 1 ≤ j) → (j < 96 ∨ 97 ≤ j) → en1 j = en j) → f_X10_best_B24 now rall fab fbe bads noes fulls rheld rsecs rhelp rna rout rmiss = some q → G p l e ({ frames := 6, cells := 0, slots := 0, locals := 152 } : Room) s m args below meth c D n ad A 4 0 0 Q en1 24 [(0, .ref (ad 0))] [] := by
    intro en1 fab fbe bads noes fulls rheld rsecs rhelp rna rout rmiss e_tt e_rowso e_rallarr H_now hfr h
    unfold f_X10_best_B24 at h
    refine G_aload_n hC 0 0 rfl rfl dX10_best_24 ?_
    refine G_bipush hC (v := (-2)) (by decide) dX10_best_25 ?_
    obtain ⟨q27, h27, h⟩ := bnd h
    refine G_cVi (st := []) hC _ 0 (by omega) (c_X10_counted  l (by omega) e_tt h27) (cwV 1 hC.hts gX10_best_X10_counted rfl rfl rfl (by decide +kernel) ⟨Nat.le_of_ble_eq_true rfl, Nat.le_of_ble_eq_true rfl⟩) e_tt rfl rfl (Nat.le_of_ble_eq_true rfl) (Nat.zero_le _) (Nat.zero_le _) rfl dX10_best_27 (fun r27 en2 hw => ?_)
    obtain ⟨rfl, e_tt, fr⟩ := hw
    have e_rowso := (fr 96 (by omega)).trans e_rowso
    have e_rallarr := (fr 97 (by omega)).trans e_rallarr
    have H_now := H_now.fr (fun j h1 h2 => fr j (by omega))
    have hfr : ∀ j, (j < 0 ∨ 1 ≤ j) → (j < 96 ∨ 97 ≤ j) → en2 j = en j := fun j o0 o1 => (fr j (by omega)).trans (hfr j o0 o1)
    have h := Option.some.inj h
    subst h
    exact Kr _ _ _ _ (nar_i _) ⟨rfl, e_tt, e_rowso, hfr⟩ dX10_best_30
  unfold f_X10_best at h
  have hfr : ∀ j, (j < 0 ∨ 1 ≤ j) → (j < 96 ∨ 97 ≤ j) → en j = en j := fun _ _ _ => rfl
  refine G_aload_n hC 0 0 rfl rfl dX10_best_0 ?_
  refine G_get hC inX10 0 (by omega) (v := .ref (ad 1)) e_tt rfl 0 (by decide) m10 rfl rfl dX10_best_1 ?_
  refine G_get hC inX1 1 (by omega) (v := .ref (ad (2))) (H_now 0 (by decide)) rfl 0 (by decide) m80 rfl rfl dX10_best_4 ?_
  refine G_iload_n hC 1 1 rfl rfl dX10_best_7 ?_
  obtain ⟨q8, h8, h⟩ := bnd h
  refine G_cVi (st := []) hC _ (1 + 1) (by omega) (c_X8_holds (pp := 1 + 1) l (by omega) (H_now 1 (by decide)) h8) (cwV 1 hC.hts gX10_best_X8_holds rfl rfl rfl (by decide +kernel) ⟨Nat.le_of_ble_eq_true rfl, Nat.le_of_ble_eq_true rfl⟩) (H_now 1 (by decide)) rfl rfl (Nat.le_of_ble_eq_true rfl) (Nat.zero_le _) (Nat.zero_le _) rfl dX10_best_8 (fun r8 enx hw => ?_)
  obtain ⟨rfl, rfl⟩ := hw
  refine G_if_eq hC 24 dX10_best_11 (by decide) (fun c11 => ?_) (fun c11 => ?_)
  · have h := ifp c11 h
    refine G_lv [0] rfl ?_
    exact hB24 _ _ _ _ _ _ _ _ _ _ _ _ e_tt e_rowso e_rallarr H_now hfr h
  have h := ifn c11 h
  refine G_iload_n hC 2 2 rfl rfl dX10_best_14 ?_
  refine G_iconst hC (v := 0) (by decide) dX10_best_15 ?_
  refine G_bipush hC (v := 60) (by decide) dX10_best_16 ?_
  obtain ⟨q18, h18, h⟩ := bnd h
  refine G_cSi (st := []) hC _ (c_X10_within  l  h18) (va_cwS 3 hC.hts gX10_best_X10_within rfl rfl rfl (by decide +kernel) ⟨Nat.le_of_ble_eq_true rfl, Nat.le_of_ble_eq_true rfl⟩) rfl (Nat.le_of_ble_eq_true rfl) (Nat.zero_le _) (Nat.zero_le _) rfl dX10_best_18 (fun r18 enx hw => ?_)
  obtain ⟨rfl, rfl⟩ := hw
  refine G_if_ne hC 31 dX10_best_21 (by decide) (fun c21 => ?_) (fun c21 => ?_)
  · have h := ifn c21 h
    refine G_aload_n hC 0 0 rfl rfl dX10_best_31 ?_
    refine G_get hC inX10 0 (by omega) (v := .ref (ad 96)) e_tt rfl 5 (by decide) m46 rfl rfl dX10_best_32 ?_
    refine G_aload_n hC 0 0 rfl rfl dX10_best_35 ?_
    refine G_get hC inX10 0 (by omega) (v := .ref (ad 1)) e_tt rfl 0 (by decide) m10 rfl rfl dX10_best_36 ?_
    refine G_iload_n hC 1 1 rfl rfl dX10_best_39 ?_
    refine G_iload_n hC 2 2 rfl rfl dX10_best_40 ?_
    refine G_iconst hC (v := 1) (by decide) dX10_best_41 ?_
    obtain ⟨q42, h42, h⟩ := bnd h
    refine G_cVi (st := []) hC _ 96 (by omega) (c_X7_bestOf  l (by omega) e_rowso e_rallarr H_now h42) (cwV 4 hC.hts gX10_best_X7_bestOf rfl rfl rfl (by decide +kernel) ⟨Nat.le_of_ble_eq_true rfl, Nat.le_of_ble_eq_true rfl⟩) e_rowso rfl rfl (Nat.le_of_ble_eq_true rfl) (Nat.zero_le _) (Nat.zero_le _) rfl dX10_best_42 (fun r42 en2 hw => ?_)
    obtain ⟨rfl, e_rowso, fr⟩ := hw
    have e_tt := (fr 0 (by omega)).trans e_tt
    have e_rallarr := (fr 97 (by omega)).trans e_rallarr
    have H_now := H_now.fr (fun j h1 h2 => fr j (by omega))
    have hfr : ∀ j, (j < 0 ∨ 1 ≤ j) → (j < 96 ∨ 97 ≤ j) → en2 j = en j := fun j o0 o1 => (fr j (by omega)).trans (hfr j o0 o1)
    refine G_istore_n hC 3 [(3, .int q42.1), (0, .ref (ad 0)), (1, .int x1), (2, .int x2)] rfl (by decide) rfl dX10_best_45 ?_
    refine G_aload_n hC 0 1 rfl rfl dX10_best_46 ?_
    refine G_get hC inX10 0 (by omega) (v := .ref (ad 96)) e_tt rfl 5 (by decide) m46 rfl rfl dX10_best_47 ?_
    refine G_aload_n hC 0 1 rfl rfl dX10_best_50 ?_
    refine G_get hC inX10 0 (by omega) (v := .ref (ad 1)) e_tt rfl 0 (by decide) m10 rfl rfl dX10_best_51 ?_
    refine G_iload_n hC 1 2 rfl rfl dX10_best_54 ?_
    refine G_iload_n hC 3 0 rfl rfl dX10_best_55 ?_
    obtain ⟨q56, h56, h⟩ := bnd h
    refine G_cVi (st := []) hC _ 96 (by omega) (c_X7_go  l (by omega) e_rowso H_now h56) (cwV 3 hC.hts gX10_best_X7_go rfl rfl rfl (by decide +kernel) ⟨Nat.le_of_ble_eq_true rfl, Nat.le_of_ble_eq_true rfl⟩) e_rowso rfl rfl (Nat.le_of_ble_eq_true rfl) (Nat.zero_le _) (Nat.zero_le _) rfl dX10_best_56 (fun r56 en3 hw => ?_)
    obtain ⟨rfl, e_rowso, fr⟩ := hw
    have e_tt := (fr 0 (by omega)).trans e_tt
    have e_rallarr := (fr 97 (by omega)).trans e_rallarr
    have H_now := H_now.fr (fun j h1 h2 => fr j (by omega))
    have hfr : ∀ j, (j < 0 ∨ 1 ≤ j) → (j < 96 ∨ 97 ≤ j) → en3 j = en j := fun j o0 o1 => (fr j (by omega)).trans (hfr j o0 o1)
    refine G_pop hC rfl dX10_best_59 ?_
    refine G_aload_n hC 0 1 rfl rfl dX10_best_60 ?_
    refine G_aload_n hC 0 1 rfl rfl dX10_best_61 ?_
    refine G_get hC inX10 0 (by omega) (v := .ref (ad 96)) e_tt rfl 5 (by decide) m46 rfl rfl dX10_best_62 ?_
    obtain ⟨q65, h65, h⟩ := bnd h
    refine G_cVl (st := [.ref (ad 0)]) hC _ 96 (by omega) (c_X7_brings  l (by omega) e_rowso h65) (cwV 0 hC.hts gX10_best_X7_brings rfl rfl rfl (by decide +kernel) ⟨Nat.le_of_ble_eq_true rfl, Nat.le_of_ble_eq_true rfl⟩) e_rowso rfl rfl (Nat.le_of_ble_eq_true rfl) (Nat.zero_le _) (Nat.zero_le _) rfl dX10_best_65 (fun r65 enx hw => ?_)
    obtain ⟨rfl, rfl⟩ := hw
    refine G_ldc2 hC (v := (10240000000000)) k135 dX10_best_68 ?_
    obtain ⟨q71, h71, h⟩ := bnd h
    refine G_cVv (st := []) hC _ 0 (by omega) (c_X10_setFraction  l (by omega) e_tt h71) (cwV 2 hC.hts gX10_best_X10_setFraction rfl rfl rfl (by decide +kernel) ⟨Nat.le_of_ble_eq_true rfl, Nat.le_of_ble_eq_true rfl⟩) e_tt rfl rfl (Nat.le_of_ble_eq_true rfl) (Nat.zero_le _) (Nat.zero_le _) rfl dX10_best_71 (fun en4 hw => ?_)
    obtain ⟨e_tt, fr⟩ := hw
    have e_rowso := (fr 96 (by omega)).trans e_rowso
    have e_rallarr := (fr 97 (by omega)).trans e_rallarr
    have H_now := H_now.fr (fun j h1 h2 => fr j (by omega))
    have hfr : ∀ j, (j < 0 ∨ 1 ≤ j) → (j < 96 ∨ 97 ≤ j) → en4 j = en j := fun j o0 o1 => (fr j (by omega)).trans (hfr j o0 o1)
    refine G_iload_n hC 3 0 rfl rfl dX10_best_74 ?_
    have h := Option.some.inj h
    subst h
    exact Kr _ _ _ _ (nar_i _) ⟨rfl, e_tt, e_rowso, hfr⟩ dX10_best_75
  have h := ifp c21 h
  refine G_lv [0] rfl ?_
  exact hB24 _ _ _ _ _ _ _ _ _ _ _ _ e_tt e_rowso e_rallarr H_now hfr h
def f_X10_tell_B24 (now : HallV) (rall : Nat → Int32)  (bads : Int32) (noes : Int32) (fulls : Int32) (rheld : Int32) (rsecs : Int32) (rhelp : Int32) (rna : Int32) (rout : Int32) (rmiss : Int64) : Option (Int32 × Int32 × Int32 × Int32 × Int32 × Int32 × Int32 × Int32 × Int32 × Int64) := Option.bind (f_X10_counted bads noes fulls (-2 : Int32)) (fun q27 => some (q27.1, q27.2.1, q27.2.2.1, q27.2.2.2, rheld, rsecs, rhelp, rna, rout, rmiss))
def f_X10_tell (bads : Int32) (noes : Int32) (fulls : Int32) (now : HallV) (rall : Nat → Int32) (rheld : Int32) (rsecs : Int32) (rhelp : Int32) (rna : Int32) (rout : Int32) (rmiss : Int64) (x1 : Int32) (x2 : Int32) : Option (Int32 × Int32 × Int32 × Int32 × Int32 × Int32 × Int32 × Int32 × Int32 × Int64) := Option.bind (f_X8_holds (now.1 0) x1) (fun q8 => if q8 = 0 then (f_X10_tell_B24 now rall bads noes fulls rheld rsecs rhelp rna rout rmiss) else (Option.bind (f_X10_within x2 (0 : Int32) (60 : Int32)) (fun q18 => if q18 = 0 then (f_X10_tell_B24 now rall bads noes fulls rheld rsecs rhelp rna rout rmiss) else (Option.bind (f_X7_bestOf now rall rheld rsecs rhelp rna rout rmiss x1 x2 (0 : Int32)) (fun q51 => Option.bind (f_X7_go now q51.2.1 q51.2.2.1 q51.2.2.2.1 q51.2.2.2.2.1 q51.2.2.2.2.2.1 q51.2.2.2.2.2.2 x1 q51.1) (fun q54 => Option.bind (f_X7_brings q54.2.2.2.2.2.2) (fun q62 => Option.bind (f_X1_shame now x1) (fun q76 => if 0 ≤ lg_cmp (q62 * (20 : Int64)) ((((20 : Int32) - q76).toInt64) * (10240000000000 : Int64)) then (some ((0 : Int32), bads, noes, fulls, q54.2.1, q54.2.2.1, q54.2.2.2.1, q54.2.2.2.2.1, q54.2.2.2.2.2.1, q54.2.2.2.2.2.2)) else (some ((1 : Int32), bads, noes, fulls, q54.2.1, q54.2.2.1, q54.2.2.2.1, q54.2.2.2.2.1, q54.2.2.2.2.2.1, q54.2.2.2.2.2.2))))))))))
set_option maxHeartbeats 4000000 in
set_option maxRecDepth 100000 in
theorem c_X10_tell {D : va_G} {cs : Nat → ClassId} {sa : Nat → Nat} {n : Nat} {ad : Nat → Nat} {A : Nat → Prop} (l : Launch) {en : Nat → va_E}  {keptImages : Int32} {fab : Int64} {fbe : Int64} {bads : Int32} {noes : Int32} {fulls : Int32} {now : HallV} {rall : Nat → Int32} {rheld : Int32} {rsecs : Int32} {rhelp : Int32} {rna : Int32} {rout : Int32} {rmiss : Int64} {x1 : Int32} {x2 : Int32}  {q : Int32 × Int32 × Int32 × Int32 × Int32 × Int32 × Int32 × Int32 × Int32 × Int64} (hn : 110 ≤ n) (e_tt : en 0 = .inr (7, [.ref (ad 1), .ref (ad 12), .ref (ad 58), .ref (ad 81), .ref (ad 83), .ref (ad 96), .ref (ad 98), .int keptImages, .long fab, .long fbe, .int bads, .int noes, .int fulls])) (e_rowso : en 96 = .inr (4, [.ref (ad 97), .int rheld, .int rsecs, .int rhelp, .int rna, .int rout, .long rmiss])) (e_rallarr : en 97 = .inl (cs 1, 326, .inl (rall))) (H_now : Hall cs ad en 1 now) (h : f_X10_tell bads noes fulls now rall rheld rsecs rhelp rna rout rmiss x1 x2 = some q) : Met l yX10_tell wsX10_tell { frames := 6, cells := 0, slots := 0, locals := 152 } (va_Pc [.ref (ad 0), .int x1, .int x2] (Wd D cs sa n ad A en)) (va_Qi (fun r u => q.1 = r ∧ u 0 = .inr (7, [.ref (ad 1), .ref (ad 12), .ref (ad 58), .ref (ad 81), .ref (ad 83), .ref (ad 96), .ref (ad 98), .int keptImages, .long fab, .long fbe, .int q.2.1, .int q.2.2.1, .int q.2.2.2.1]) ∧ u 96 = .inr (4, [.ref (ad 97), .int q.2.2.2.2.1, .int q.2.2.2.2.2.1, .int q.2.2.2.2.2.2.1, .int q.2.2.2.2.2.2.2.1, .int q.2.2.2.2.2.2.2.2.1, .long q.2.2.2.2.2.2.2.2.2]) ∧ (∀ j, (j < 0 ∨ 1 ≤ j) → (j < 96 ∨ 97 ≤ j) → u j = en j)) (Wd D cs sa n ad A) A) 0 0 A := by
  refine G_startI cX10_tell 3 [(0, .ref (ad 0)), (1, .int x1), (2, .int x2)] (by decide) rfl (Nat.le_of_ble_eq_true rfl) rfl ?_
  intro p e s m args below meth c Q hC hnm Kr
  have inX1 : ∀ w ∈ u_ws RX1 TX1 6, w ∈ wsX10_tell := by decide +kernel
  have inX10 : ∀ w ∈ u_ws RX10 TX10 13, w ∈ wsX10_tell := by decide +kernel
  have k135 : Cond.constantLong RX10 135 (10240000000000) ∈ wsX10_tell := by decide +kernel
  have k148 : Cond.constantLong RX10 148 (20) ∈ wsX10_tell := by decide +kernel
  have m10 : Cond.fieldLink RX10 10 "TongueTip" "now" "LTongueTip$Hall;" ∈ wsX10_tell := by decide +kernel
  have m46 : Cond.fieldLink RX10 46 "TongueTip" "rows" "LTongueTip$Rows;" ∈ wsX10_tell := by decide +kernel
  have m80 : Cond.fieldLink RX10 80 "TongueTip$Hall" "people" "LTongueTip$Table;" ∈ wsX10_tell := by decide +kernel
  have hB24 : ∀ (en1 : Nat → va_E) (bads : Int32) (noes : Int32) (fulls : Int32) (rheld : Int32) (rsecs : Int32) (rhelp : Int32) (rna : Int32) (rout : Int32) (rmiss : Int64), en1 0 = .inr (7, [.ref (ad 1), .ref (ad 12), .ref (ad 58), .ref (ad 81), .ref (ad 83), .ref (ad 96), .ref (ad 98), .int keptImages, .long fab, .long fbe, .int bads, .int noes, .int fulls]) → en1 96 = .inr (4, [.ref (ad 97), .int rheld, .int rsecs, .int rhelp, .int rna, .int rout, .long rmiss]) → en1 97 = .inl (cs 1, 326, .inl (rall)) → Hall cs ad en1 1 now → (∀ j, (j < 0 ∨ 1 ≤ j) → (j < 96 ∨ 97 ≤ j) → en1 j = en j) → f_X10_tell_B24 now rall bads noes fulls rheld rsecs rhelp rna rout rmiss = some q → G p l e ({ frames := 6, cells := 0, slots := 0, locals := 152 } : Room) s m args below meth c D n ad A 3 0 0 Q en1 24 [(0, .ref (ad 0))] [] := by
    intro en1 bads noes fulls rheld rsecs rhelp rna rout rmiss e_tt e_rowso e_rallarr H_now hfr h
    unfold f_X10_tell_B24 at h
    refine G_aload_n hC 0 0 rfl rfl dX10_tell_24 ?_
    refine G_bipush hC (v := (-2)) (by decide) dX10_tell_25 ?_
    obtain ⟨q27, h27, h⟩ := bnd h
    refine G_cVi (st := []) hC _ 0 (by omega) (c_X10_counted  l (by omega) e_tt h27) (cwV 1 hC.hts gX10_tell_X10_counted rfl rfl rfl (by decide +kernel) ⟨Nat.le_of_ble_eq_true rfl, Nat.le_of_ble_eq_true rfl⟩) e_tt rfl rfl (Nat.le_of_ble_eq_true rfl) (Nat.zero_le _) (Nat.zero_le _) rfl dX10_tell_27 (fun r27 en2 hw => ?_)
    obtain ⟨rfl, e_tt, fr⟩ := hw
    have e_rowso := (fr 96 (by omega)).trans e_rowso
    have e_rallarr := (fr 97 (by omega)).trans e_rallarr
    have H_now := H_now.fr (fun j h1 h2 => fr j (by omega))
    have hfr : ∀ j, (j < 0 ∨ 1 ≤ j) → (j < 96 ∨ 97 ≤ j) → en2 j = en j := fun j o0 o1 => (fr j (by omega)).trans (hfr j o0 o1)
    have h := Option.some.inj h
    subst h
    exact Kr _ _ _ _ (nar_i _) ⟨rfl, e_tt, e_rowso, hfr⟩ dX10_tell_30
  unfold f_X10_tell at h
  have hfr : ∀ j, (j < 0 ∨ 1 ≤ j) → (j < 96 ∨ 97 ≤ j) → en j = en j := fun _ _ _ => rfl
  refine G_aload_n hC 0 0 rfl rfl dX10_tell_0 ?_
  refine G_get hC inX10 0 (by omega) (v := .ref (ad 1)) e_tt rfl 0 (by decide) m10 rfl rfl dX10_tell_1 ?_
  refine G_get hC inX1 1 (by omega) (v := .ref (ad (2))) (H_now 0 (by decide)) rfl 0 (by decide) m80 rfl rfl dX10_tell_4 ?_
  refine G_iload_n hC 1 1 rfl rfl dX10_tell_7 ?_
  obtain ⟨q8, h8, h⟩ := bnd h
  refine G_cVi (st := []) hC _ (1 + 1) (by omega) (c_X8_holds (pp := 1 + 1) l (by omega) (H_now 1 (by decide)) h8) (cwV 1 hC.hts gX10_tell_X8_holds rfl rfl rfl (by decide +kernel) ⟨Nat.le_of_ble_eq_true rfl, Nat.le_of_ble_eq_true rfl⟩) (H_now 1 (by decide)) rfl rfl (Nat.le_of_ble_eq_true rfl) (Nat.zero_le _) (Nat.zero_le _) rfl dX10_tell_8 (fun r8 enx hw => ?_)
  obtain ⟨rfl, rfl⟩ := hw
  refine G_if_eq hC 24 dX10_tell_11 (by decide) (fun c11 => ?_) (fun c11 => ?_)
  · have h := ifp c11 h
    refine G_lv [0] rfl ?_
    exact hB24 _ _ _ _ _ _ _ _ _ _ e_tt e_rowso e_rallarr H_now hfr h
  have h := ifn c11 h
  refine G_iload_n hC 2 2 rfl rfl dX10_tell_14 ?_
  refine G_iconst hC (v := 0) (by decide) dX10_tell_15 ?_
  refine G_bipush hC (v := 60) (by decide) dX10_tell_16 ?_
  obtain ⟨q18, h18, h⟩ := bnd h
  refine G_cSi (st := []) hC _ (c_X10_within  l  h18) (va_cwS 3 hC.hts gX10_tell_X10_within rfl rfl rfl (by decide +kernel) ⟨Nat.le_of_ble_eq_true rfl, Nat.le_of_ble_eq_true rfl⟩) rfl (Nat.le_of_ble_eq_true rfl) (Nat.zero_le _) (Nat.zero_le _) rfl dX10_tell_18 (fun r18 enx hw => ?_)
  obtain ⟨rfl, rfl⟩ := hw
  refine G_if_ne hC 31 dX10_tell_21 (by decide) (fun c21 => ?_) (fun c21 => ?_)
  · have h := ifn c21 h
    refine G_aload_n hC 0 0 rfl rfl dX10_tell_31 ?_
    refine G_get hC inX10 0 (by omega) (v := .ref (ad 96)) e_tt rfl 5 (by decide) m46 rfl rfl dX10_tell_32 ?_
    refine G_aload_n hC 0 0 rfl rfl dX10_tell_35 ?_
    refine G_get hC inX10 0 (by omega) (v := .ref (ad 1)) e_tt rfl 0 (by decide) m10 rfl rfl dX10_tell_36 ?_
    refine G_iload_n hC 1 1 rfl rfl dX10_tell_39 ?_
    refine G_aload_n hC 0 0 rfl rfl dX10_tell_40 ?_
    refine G_get hC inX10 0 (by omega) (v := .ref (ad 96)) e_tt rfl 5 (by decide) m46 rfl rfl dX10_tell_41 ?_
    refine G_aload_n hC 0 0 rfl rfl dX10_tell_44 ?_
    refine G_get hC inX10 0 (by omega) (v := .ref (ad 1)) e_tt rfl 0 (by decide) m10 rfl rfl dX10_tell_45 ?_
    refine G_iload_n hC 1 1 rfl rfl dX10_tell_48 ?_
    refine G_iload_n hC 2 2 rfl rfl dX10_tell_49 ?_
    refine G_iconst hC (v := 0) (by decide) dX10_tell_50 ?_
    obtain ⟨q51, h51, h⟩ := bnd h
    refine G_cVi (st := [.int x1, .ref (ad 1), .ref (ad 96)]) hC _ 96 (by omega) (c_X7_bestOf  l (by omega) e_rowso e_rallarr H_now h51) (cwV 4 hC.hts gX10_tell_X7_bestOf rfl rfl rfl (by decide +kernel) ⟨Nat.le_of_ble_eq_true rfl, Nat.le_of_ble_eq_true rfl⟩) e_rowso rfl rfl (Nat.le_of_ble_eq_true rfl) (Nat.zero_le _) (Nat.zero_le _) rfl dX10_tell_51 (fun r51 en2 hw => ?_)
    obtain ⟨rfl, e_rowso, fr⟩ := hw
    have e_tt := (fr 0 (by omega)).trans e_tt
    have e_rallarr := (fr 97 (by omega)).trans e_rallarr
    have H_now := H_now.fr (fun j h1 h2 => fr j (by omega))
    have hfr : ∀ j, (j < 0 ∨ 1 ≤ j) → (j < 96 ∨ 97 ≤ j) → en2 j = en j := fun j o0 o1 => (fr j (by omega)).trans (hfr j o0 o1)
    obtain ⟨q54, h54, h⟩ := bnd h
    refine G_cVi (st := []) hC _ 96 (by omega) (c_X7_go  l (by omega) e_rowso H_now h54) (cwV 3 hC.hts gX10_tell_X7_go rfl rfl rfl (by decide +kernel) ⟨Nat.le_of_ble_eq_true rfl, Nat.le_of_ble_eq_true rfl⟩) e_rowso rfl rfl (Nat.le_of_ble_eq_true rfl) (Nat.zero_le _) (Nat.zero_le _) rfl dX10_tell_54 (fun r54 en3 hw => ?_)
    obtain ⟨rfl, e_rowso, fr⟩ := hw
    have e_tt := (fr 0 (by omega)).trans e_tt
    have e_rallarr := (fr 97 (by omega)).trans e_rallarr
    have H_now := H_now.fr (fun j h1 h2 => fr j (by omega))
    have hfr : ∀ j, (j < 0 ∨ 1 ≤ j) → (j < 96 ∨ 97 ≤ j) → en3 j = en j := fun j o0 o1 => (fr j (by omega)).trans (hfr j o0 o1)
    refine G_pop hC rfl dX10_tell_57 ?_
    refine G_aload_n hC 0 0 rfl rfl dX10_tell_58 ?_
    refine G_get hC inX10 0 (by omega) (v := .ref (ad 96)) e_tt rfl 5 (by decide) m46 rfl rfl dX10_tell_59 ?_
    obtain ⟨q62, h62, h⟩ := bnd h
    refine G_cVl (st := []) hC _ 96 (by omega) (c_X7_brings  l (by omega) e_rowso h62) (cwV 0 hC.hts gX10_tell_X7_brings rfl rfl rfl (by decide +kernel) ⟨Nat.le_of_ble_eq_true rfl, Nat.le_of_ble_eq_true rfl⟩) e_rowso rfl rfl (Nat.le_of_ble_eq_true rfl) (Nat.zero_le _) (Nat.zero_le _) rfl dX10_tell_62 (fun r62 enx hw => ?_)
    obtain ⟨rfl, rfl⟩ := hw
    refine G_ldc2 hC (v := (20)) k148 dX10_tell_65 ?_
    refine G_lmul hC dX10_tell_68 ?_
    refine G_bipush hC (v := 20) (by decide) dX10_tell_69 ?_
    refine G_aload_n hC 0 0 rfl rfl dX10_tell_71 ?_
    refine G_get hC inX10 0 (by omega) (v := .ref (ad 1)) e_tt rfl 0 (by decide) m10 rfl rfl dX10_tell_72 ?_
    refine G_iload_n hC 1 1 rfl rfl dX10_tell_75 ?_
    obtain ⟨q76, h76, h⟩ := bnd h
    refine G_cVi (st := [.int (20 : Int32), .long (q62 * (20 : Int64))]) hC _ 1 (by omega) (c_X1_shame (kk := 1) l (by omega) H_now h76) (cwV 1 hC.hts gX10_tell_X1_shame rfl rfl rfl (by decide +kernel) ⟨Nat.le_of_ble_eq_true rfl, Nat.le_of_ble_eq_true rfl⟩) (H_now 0 (by decide)) rfl rfl (Nat.le_of_ble_eq_true rfl) (Nat.zero_le _) (Nat.zero_le _) rfl dX10_tell_76 (fun r76 enx hw => ?_)
    obtain ⟨rfl, rfl⟩ := hw
    refine G_isub hC dX10_tell_79 ?_
    refine G_i2l hC dX10_tell_80 ?_
    refine G_ldc2 hC (v := (10240000000000)) k135 dX10_tell_81 ?_
    refine G_lmul hC dX10_tell_84 ?_
    refine G_lcmp hC dX10_tell_85 ?_
    refine G_if_ge hC 93 dX10_tell_86 (by decide) (fun c86 => ?_) (fun c86 => ?_)
    · have h := ifp c86 h
      refine G_iconst hC (v := 0) (by decide) dX10_tell_93 ?_
      have h := Option.some.inj h
      subst h
      exact Kr _ _ _ _ (nar_i _) ⟨rfl, e_tt, e_rowso, hfr⟩ dX10_tell_94
    have h := ifn c86 h
    refine G_iconst hC (v := 1) (by decide) dX10_tell_89 ?_
    refine G_goto hC 94 dX10_tell_90 (by decide) ?_
    have h := Option.some.inj h
    subst h
    exact Kr _ _ _ _ (nar_i _) ⟨rfl, e_tt, e_rowso, hfr⟩ dX10_tell_94
  have h := ifp c21 h
  refine G_lv [0] rfl ?_
  exact hB24 _ _ _ _ _ _ _ _ _ _ e_tt e_rowso e_rallarr H_now hfr h
def f_X10_has_B25   (bads : Int32) (noes : Int32) (fulls : Int32) (now : HallV) (x1 : Int32) (x2 : Int32) : Option (Int32 × Int32 × Int32 × Int32 × HallV) := Option.bind (f_X1_hasOf now x1) (fun q30 => Option.bind (f_X8_set (5 : Int32) 5 (now.2.1 4) (0 : Int32) x1 x2.toInt64) (fun q45 => some (q30, bads, noes, fulls, hsC now 4 q45)))
def f_X10_has_B20   (bads : Int32) (noes : Int32) (fulls : Int32) (now : HallV) : Option (Int32 × Int32 × Int32 × Int32 × HallV) := Option.bind (f_X10_countedBadTen bads noes fulls) (fun q21 => some (q21.1, q21.2.1, q21.2.2.1, q21.2.2.2, now))
def f_X10_has (bads : Int32) (noes : Int32) (fulls : Int32) (now : HallV) (x1 : Int32) (x2 : Int32) : Option (Int32 × Int32 × Int32 × Int32 × HallV) := Option.bind (f_X1_isPart x1) (fun q1 => if q1 = 0 then (f_X10_has_B20 bads noes fulls now) else (if x2 = (-1 : Int32) then (f_X10_has_B25 bads noes fulls now x1 x2) else (Option.bind (f_X1_isPartValue x1 x2) (fun q14 => if q14 = 0 then (f_X10_has_B20 bads noes fulls now) else (f_X10_has_B25 bads noes fulls now x1 x2)))))
set_option maxHeartbeats 4000000 in
set_option maxRecDepth 100000 in
theorem c_X10_has {D : va_G} {cs : Nat → ClassId} {sa : Nat → Nat} {n : Nat} {ad : Nat → Nat} {A : Nat → Prop} (l : Launch) {en : Nat → va_E}  {keptImages : Int32} {fab : Int64} {fbe : Int64} {bads : Int32} {noes : Int32} {fulls : Int32} {now : HallV} {x1 : Int32} {x2 : Int32}  {q : Int32 × Int32 × Int32 × Int32 × HallV} (hn : 110 ≤ n) (e_tt : en 0 = .inr (7, [.ref (ad 1), .ref (ad 12), .ref (ad 58), .ref (ad 81), .ref (ad 83), .ref (ad 96), .ref (ad 98), .int keptImages, .long fab, .long fbe, .int bads, .int noes, .int fulls])) (H_now : Hall cs ad en 1 now) (h : f_X10_has bads noes fulls now x1 x2 = some q) : Met l yX10_has wsX10_has { frames := 2, cells := 0, slots := 0, locals := 44 } (va_Pc [.ref (ad 0), .int x1, .int x2] (Wd D cs sa n ad A en)) (va_Qi (fun r u => q.1 = r ∧ u 0 = .inr (7, [.ref (ad 1), .ref (ad 12), .ref (ad 58), .ref (ad 81), .ref (ad 83), .ref (ad 96), .ref (ad 98), .int keptImages, .long fab, .long fbe, .int q.2.1, .int q.2.2.1, .int q.2.2.2.1]) ∧ Hall cs ad u 1 q.2.2.2.2 ∧ (∀ j, (j < 0 ∨ 1 ≤ j) → (j < 1 ∨ 12 ≤ j) → u j = en j)) (Wd D cs sa n ad A) A) 0 0 A := by
  refine G_startI cX10_has 4 [(0, .ref (ad 0)), (1, .int x1), (2, .int x2)] (by decide) rfl (Nat.le_of_ble_eq_true rfl) rfl ?_
  intro p e s m args below meth c Q hC hnm Kr
  have inX1 : ∀ w ∈ u_ws RX1 TX1 6, w ∈ wsX10_has := by decide +kernel
  have inX10 : ∀ w ∈ u_ws RX10 TX10 13, w ∈ wsX10_has := by decide +kernel
  have m10 : Cond.fieldLink RX10 10 "TongueTip" "now" "LTongueTip$Hall;" ∈ wsX10_has := by decide +kernel
  have m166 : Cond.fieldLink RX10 166 "TongueTip$Hall" "known" "LTongueTip$Table;" ∈ wsX10_has := by decide +kernel
  have hB25 : ∀ (en1 : Nat → va_E) (bads : Int32) (noes : Int32) (fulls : Int32) (now : HallV) (x1 : Int32) (x2 : Int32), en1 0 = .inr (7, [.ref (ad 1), .ref (ad 12), .ref (ad 58), .ref (ad 81), .ref (ad 83), .ref (ad 96), .ref (ad 98), .int keptImages, .long fab, .long fbe, .int bads, .int noes, .int fulls]) → Hall cs ad en1 1 now → (∀ j, (j < 0 ∨ 1 ≤ j) → (j < 1 ∨ 12 ≤ j) → en1 j = en j) → f_X10_has_B25 bads noes fulls now x1 x2 = some q → G p l e ({ frames := 2, cells := 0, slots := 0, locals := 44 } : Room) s m args below meth c D n ad A 4 0 0 Q en1 25 [(0, .ref (ad 0)), (1, .int x1), (2, .int x2)] [] := by
    intro en1 bads noes fulls now x1 x2 e_tt H_now hfr h
    unfold f_X10_has_B25 at h
    refine G_aload_n hC 0 0 rfl rfl dX10_has_25 ?_
    refine G_get hC inX10 0 (by omega) (v := .ref (ad 1)) e_tt rfl 0 (by decide) m10 rfl rfl dX10_has_26 ?_
    refine G_iload_n hC 1 1 rfl rfl dX10_has_29 ?_
    obtain ⟨q30, h30, h⟩ := bnd h
    refine G_cVi (st := []) hC _ 1 (by omega) (c_X1_hasOf (kk := 1) l (by omega) H_now h30) (cwV 1 hC.hts gX10_has_X1_hasOf rfl rfl rfl (by decide +kernel) ⟨Nat.le_of_ble_eq_true rfl, Nat.le_of_ble_eq_true rfl⟩) (H_now 0 (by decide)) rfl rfl (Nat.le_of_ble_eq_true rfl) (Nat.zero_le _) (Nat.zero_le _) rfl dX10_has_30 (fun r30 enx hw => ?_)
    obtain ⟨rfl, rfl⟩ := hw
    refine G_istore_n hC 3 [(3, .int q30), (0, .ref (ad 0)), (1, .int x1), (2, .int x2)] rfl (by decide) rfl dX10_has_33 ?_
    refine G_aload_n hC 0 1 rfl rfl dX10_has_34 ?_
    refine G_get hC inX10 0 (by omega) (v := .ref (ad 1)) e_tt rfl 0 (by decide) m10 rfl rfl dX10_has_35 ?_
    refine G_get hC inX1 1 (by omega) (v := .ref (ad (10))) (H_now 0 (by decide)) rfl 4 (by decide) m166 rfl rfl dX10_has_38 ?_
    refine G_iconst hC (v := 0) (by decide) dX10_has_41 ?_
    refine G_iload_n hC 1 2 rfl rfl dX10_has_42 ?_
    refine G_iload_n hC 2 3 rfl rfl dX10_has_43 ?_
    refine G_i2l hC dX10_has_44 ?_
    obtain ⟨q45, h45, h⟩ := bnd h
    refine G_cVv (st := []) hC _ (1 + 9) (by omega) (c_X8_set (pp := 1 + 9) l (by omega) (H_now 9 (by decide)) (H_now 10 (by decide)) h45) (cwV 3 hC.hts gX10_has_X8_set rfl rfl rfl (by decide +kernel) ⟨Nat.le_of_ble_eq_true rfl, Nat.le_of_ble_eq_true rfl⟩) (H_now 9 (by decide)) rfl rfl (Nat.le_of_ble_eq_true rfl) (Nat.zero_le _) (Nat.zero_le _) rfl dX10_has_45 (fun en2 hw => ?_)
    obtain ⟨t_Tc, fr⟩ := hw
    have H_now : Hall cs ad en2 1 (hsC now 4 q45) := H_now.upC4 t_Tc fr
    have e_tt := (fr 0 (by omega)).trans e_tt
    have hfr : ∀ j, (j < 0 ∨ 1 ≤ j) → (j < 1 ∨ 12 ≤ j) → en2 j = en j := fun j o0 o1 => (fr j (by omega)).trans (hfr j o0 o1)
    refine G_iload_n hC 3 0 rfl rfl dX10_has_48 ?_
    have h := Option.some.inj h
    subst h
    exact Kr _ _ _ _ (nar_i _) ⟨rfl, e_tt, H_now, hfr⟩ dX10_has_49
  have hB20 : ∀ (en1 : Nat → va_E) (bads : Int32) (noes : Int32) (fulls : Int32) (now : HallV), en1 0 = .inr (7, [.ref (ad 1), .ref (ad 12), .ref (ad 58), .ref (ad 81), .ref (ad 83), .ref (ad 96), .ref (ad 98), .int keptImages, .long fab, .long fbe, .int bads, .int noes, .int fulls]) → Hall cs ad en1 1 now → (∀ j, (j < 0 ∨ 1 ≤ j) → (j < 1 ∨ 12 ≤ j) → en1 j = en j) → f_X10_has_B20 bads noes fulls now = some q → G p l e ({ frames := 2, cells := 0, slots := 0, locals := 44 } : Room) s m args below meth c D n ad A 4 0 0 Q en1 20 [(0, .ref (ad 0))] [] := by
    intro en1 bads noes fulls now e_tt H_now hfr h
    unfold f_X10_has_B20 at h
    refine G_aload_n hC 0 0 rfl rfl dX10_has_20 ?_
    obtain ⟨q21, h21, h⟩ := bnd h
    refine G_cVi (st := []) hC _ 0 (by omega) (c_X10_countedBadTen  l (by omega) e_tt h21) (cwV 0 hC.hts gX10_has_X10_countedBadTen rfl rfl rfl (by decide +kernel) ⟨Nat.le_of_ble_eq_true rfl, Nat.le_of_ble_eq_true rfl⟩) e_tt rfl rfl (Nat.le_of_ble_eq_true rfl) (Nat.zero_le _) (Nat.zero_le _) rfl dX10_has_21 (fun r21 en2 hw => ?_)
    obtain ⟨rfl, e_tt, fr⟩ := hw
    have H_now := H_now.fr (fun j h1 h2 => fr j (by omega))
    have hfr : ∀ j, (j < 0 ∨ 1 ≤ j) → (j < 1 ∨ 12 ≤ j) → en2 j = en j := fun j o0 o1 => (fr j (by omega)).trans (hfr j o0 o1)
    have h := Option.some.inj h
    subst h
    exact Kr _ _ _ _ (nar_i _) ⟨rfl, e_tt, H_now, hfr⟩ dX10_has_24
  unfold f_X10_has at h
  have hfr : ∀ j, (j < 0 ∨ 1 ≤ j) → (j < 1 ∨ 12 ≤ j) → en j = en j := fun _ _ _ => rfl
  refine G_iload_n hC 1 1 rfl rfl dX10_has_0 ?_
  obtain ⟨q1, h1, h⟩ := bnd h
  refine G_cSi (st := []) hC _ (c_X1_isPart  l  h1) (va_cwS 1 hC.hts gX10_has_X1_isPart rfl rfl rfl (by decide +kernel) ⟨Nat.le_of_ble_eq_true rfl, Nat.le_of_ble_eq_true rfl⟩) rfl (Nat.le_of_ble_eq_true rfl) (Nat.zero_le _) (Nat.zero_le _) rfl dX10_has_1 (fun r1 enx hw => ?_)
  obtain ⟨rfl, rfl⟩ := hw
  refine G_if_eq hC 20 dX10_has_4 (by decide) (fun c4 => ?_) (fun c4 => ?_)
  · have h := ifp c4 h
    refine G_lv [0] rfl ?_
    exact hB20 _ _ _ _ _ e_tt H_now hfr h
  have h := ifn c4 h
  refine G_iload_n hC 2 2 rfl rfl dX10_has_7 ?_
  refine G_iconst hC (v := (-1)) (by decide) dX10_has_8 ?_
  refine G_icmp_eq hC 25 dX10_has_9 (by decide) (fun c9 => ?_) (fun c9 => ?_)
  · have h := ifp c9 h
    refine G_lv [0, 1, 2] rfl ?_
    exact hB25 _ _ _ _ _ _ _ e_tt H_now hfr h
  have h := ifn c9 h
  refine G_iload_n hC 1 1 rfl rfl dX10_has_12 ?_
  refine G_iload_n hC 2 2 rfl rfl dX10_has_13 ?_
  obtain ⟨q14, h14, h⟩ := bnd h
  refine G_cSi (st := []) hC _ (c_X1_isPartValue  l  h14) (va_cwS 2 hC.hts gX10_has_X1_isPartValue rfl rfl rfl (by decide +kernel) ⟨Nat.le_of_ble_eq_true rfl, Nat.le_of_ble_eq_true rfl⟩) rfl (Nat.le_of_ble_eq_true rfl) (Nat.zero_le _) (Nat.zero_le _) rfl dX10_has_14 (fun r14 enx hw => ?_)
  obtain ⟨rfl, rfl⟩ := hw
  refine G_if_ne hC 25 dX10_has_17 (by decide) (fun c17 => ?_) (fun c17 => ?_)
  · have h := ifn c17 h
    refine G_lv [0, 1, 2] rfl ?_
    exact hB25 _ _ _ _ _ _ _ e_tt H_now hfr h
  have h := ifp c17 h
  refine G_lv [0] rfl ?_
  exact hB20 _ _ _ _ _ e_tt H_now hfr h
def f_X10_whose (now : HallV)  : Option (Int32) := Option.bind (f_X4_whoseBits now) (fun q4 => some q4)
set_option maxHeartbeats 4000000 in
set_option maxRecDepth 100000 in
theorem c_X10_whose {D : va_G} {cs : Nat → ClassId} {sa : Nat → Nat} {n : Nat} {ad : Nat → Nat} {A : Nat → Prop} (l : Launch) {en : Nat → va_E}  {keptImages : Int32} {fab : Int64} {fbe : Int64} {bads : Int32} {noes : Int32} {fulls : Int32} {now : HallV}   {q : Int32} (hn : 110 ≤ n) (e_tt : en 0 = .inr (7, [.ref (ad 1), .ref (ad 12), .ref (ad 58), .ref (ad 81), .ref (ad 83), .ref (ad 96), .ref (ad 98), .int keptImages, .long fab, .long fbe, .int bads, .int noes, .int fulls])) (H_now : Hall cs ad en 1 now) (h : f_X10_whose now = some q) : Met l yX10_whose wsX10_whose { frames := 5, cells := 0, slots := 0, locals := 112 } (va_Pc [.ref (ad 0)] (Wd D cs sa n ad A en)) (va_Qi (fun r u => q = r ∧ en = u) (Wd D cs sa n ad A) A) 0 0 A := by
  refine G_startI cX10_whose 1 [(0, .ref (ad 0))] (by decide) rfl (Nat.le_of_ble_eq_true rfl) rfl ?_
  intro p e s m args below meth c Q hC hnm Kr
  have inX10 : ∀ w ∈ u_ws RX10 TX10 13, w ∈ wsX10_whose := by decide +kernel
  have m10 : Cond.fieldLink RX10 10 "TongueTip" "now" "LTongueTip$Hall;" ∈ wsX10_whose := by decide +kernel
  unfold f_X10_whose at h
  refine G_aload_n hC 0 0 rfl rfl dX10_whose_0 ?_
  refine G_get hC inX10 0 (by omega) (v := .ref (ad 1)) e_tt rfl 0 (by decide) m10 rfl rfl dX10_whose_1 ?_
  obtain ⟨q4, h4, h⟩ := bnd h
  refine G_cSi (st := []) hC _ (c_X4_whoseBits  l (by omega) H_now h4) (va_cwS 1 hC.hts gX10_whose_X4_whoseBits rfl rfl rfl (by decide +kernel) ⟨Nat.le_of_ble_eq_true rfl, Nat.le_of_ble_eq_true rfl⟩) rfl (Nat.le_of_ble_eq_true rfl) (Nat.zero_le _) (Nat.zero_le _) rfl dX10_whose_4 (fun r4 enx hw => ?_)
  obtain ⟨rfl, rfl⟩ := hw
  have h := Option.some.inj h
  subst h
  exact Kr _ _ _ _ (nar_i _) ⟨rfl, rfl⟩ dX10_whose_7
def f_X10_odds (fab : Int64) (fbe : Int64) (bads : Int32) (noes : Int32) (fulls : Int32) (now : HallV) (x1 : Int32) : Option (Int32 × Int64 × Int64 × Int32 × Int32 × Int32) := Option.bind (f_X8_holds (now.1 0) x1) (fun q8 => if q8 = 0 then (Option.bind (f_X10_counted bads noes fulls (-2 : Int32)) (fun q17 => some (q17.1, fab, fbe, q17.2.1, q17.2.2.1, q17.2.2.2))) else (Option.bind (f_X4_whoseBits now) (fun q25 => Option.bind (f_X10_isIn q25 x1) (fun q31 => if q31 = 0 then (Option.bind (f_X10_counted bads noes fulls (-3 : Int32)) (fun q40 => some (q40.1, fab, fbe, q40.2.1, q40.2.2.1, q40.2.2.2))) else (Option.bind (f_X8_number (7 : Int32) 84 (now.2.1 0) x1 (5 : Int32)) (fun q54 => Option.bind (f_X4_seenOf now q25) (fun q63 => Option.bind (f_X10_setFraction fab fbe q54.toInt64 q63.toInt64) (fun q67 => some ((1 : Int32), q67.1, q67.2, bads, noes, fulls)))))))))
set_option maxHeartbeats 4000000 in
set_option maxRecDepth 100000 in
theorem c_X10_odds {D : va_G} {cs : Nat → ClassId} {sa : Nat → Nat} {n : Nat} {ad : Nat → Nat} {A : Nat → Prop} (l : Launch) {en : Nat → va_E}  {keptImages : Int32} {fab : Int64} {fbe : Int64} {bads : Int32} {noes : Int32} {fulls : Int32} {now : HallV} {x1 : Int32}  {q : Int32 × Int64 × Int64 × Int32 × Int32 × Int32} (hn : 110 ≤ n) (e_tt : en 0 = .inr (7, [.ref (ad 1), .ref (ad 12), .ref (ad 58), .ref (ad 81), .ref (ad 83), .ref (ad 96), .ref (ad 98), .int keptImages, .long fab, .long fbe, .int bads, .int noes, .int fulls])) (H_now : Hall cs ad en 1 now) (h : f_X10_odds fab fbe bads noes fulls now x1 = some q) : Met l yX10_odds wsX10_odds { frames := 5, cells := 0, slots := 0, locals := 112 } (va_Pc [.ref (ad 0), .int x1] (Wd D cs sa n ad A en)) (va_Qi (fun r u => q.1 = r ∧ u 0 = .inr (7, [.ref (ad 1), .ref (ad 12), .ref (ad 58), .ref (ad 81), .ref (ad 83), .ref (ad 96), .ref (ad 98), .int keptImages, .long q.2.1, .long q.2.2.1, .int q.2.2.2.1, .int q.2.2.2.2.1, .int q.2.2.2.2.2]) ∧ (∀ j, (j < 0 ∨ 1 ≤ j) → u j = en j)) (Wd D cs sa n ad A) A) 0 0 A := by
  refine G_startI cX10_odds 3 [(0, .ref (ad 0)), (1, .int x1)] (by decide) rfl (Nat.le_of_ble_eq_true rfl) rfl ?_
  intro p e s m args below meth c Q hC hnm Kr
  have inX1 : ∀ w ∈ u_ws RX1 TX1 6, w ∈ wsX10_odds := by decide +kernel
  have inX10 : ∀ w ∈ u_ws RX10 TX10 13, w ∈ wsX10_odds := by decide +kernel
  have m10 : Cond.fieldLink RX10 10 "TongueTip" "now" "LTongueTip$Hall;" ∈ wsX10_odds := by decide +kernel
  have m80 : Cond.fieldLink RX10 80 "TongueTip$Hall" "people" "LTongueTip$Table;" ∈ wsX10_odds := by decide +kernel
  unfold f_X10_odds at h
  have hfr : ∀ j, (j < 0 ∨ 1 ≤ j) → en j = en j := fun _ _ => rfl
  refine G_aload_n hC 0 0 rfl rfl dX10_odds_0 ?_
  refine G_get hC inX10 0 (by omega) (v := .ref (ad 1)) e_tt rfl 0 (by decide) m10 rfl rfl dX10_odds_1 ?_
  refine G_get hC inX1 1 (by omega) (v := .ref (ad (2))) (H_now 0 (by decide)) rfl 0 (by decide) m80 rfl rfl dX10_odds_4 ?_
  refine G_iload_n hC 1 1 rfl rfl dX10_odds_7 ?_
  obtain ⟨q8, h8, h⟩ := bnd h
  refine G_cVi (st := []) hC _ (1 + 1) (by omega) (c_X8_holds (pp := 1 + 1) l (by omega) (H_now 1 (by decide)) h8) (cwV 1 hC.hts gX10_odds_X8_holds rfl rfl rfl (by decide +kernel) ⟨Nat.le_of_ble_eq_true rfl, Nat.le_of_ble_eq_true rfl⟩) (H_now 1 (by decide)) rfl rfl (Nat.le_of_ble_eq_true rfl) (Nat.zero_le _) (Nat.zero_le _) rfl dX10_odds_8 (fun r8 enx hw => ?_)
  obtain ⟨rfl, rfl⟩ := hw
  refine G_if_ne hC 21 dX10_odds_11 (by decide) (fun c11 => ?_) (fun c11 => ?_)
  · have h := ifn c11 h
    refine G_aload_n hC 0 0 rfl rfl dX10_odds_21 ?_
    refine G_get hC inX10 0 (by omega) (v := .ref (ad 1)) e_tt rfl 0 (by decide) m10 rfl rfl dX10_odds_22 ?_
    obtain ⟨q25, h25, h⟩ := bnd h
    refine G_cSi (st := []) hC _ (c_X4_whoseBits  l (by omega) H_now h25) (va_cwS 1 hC.hts gX10_odds_X4_whoseBits rfl rfl rfl (by decide +kernel) ⟨Nat.le_of_ble_eq_true rfl, Nat.le_of_ble_eq_true rfl⟩) rfl (Nat.le_of_ble_eq_true rfl) (Nat.zero_le _) (Nat.zero_le _) rfl dX10_odds_25 (fun r25 enx hw => ?_)
    obtain ⟨rfl, rfl⟩ := hw
    refine G_istore_n hC 2 [(2, .int q25), (0, .ref (ad 0)), (1, .int x1)] rfl (by decide) rfl dX10_odds_28 ?_
    refine G_iload_n hC 2 0 rfl rfl dX10_odds_29 ?_
    refine G_iload_n hC 1 2 rfl rfl dX10_odds_30 ?_
    obtain ⟨q31, h31, h⟩ := bnd h
    refine G_cSi (st := []) hC _ (c_X10_isIn  l  h31) (va_cwS 2 hC.hts gX10_odds_X10_isIn rfl rfl rfl (by decide +kernel) ⟨Nat.le_of_ble_eq_true rfl, Nat.le_of_ble_eq_true rfl⟩) rfl (Nat.le_of_ble_eq_true rfl) (Nat.zero_le _) (Nat.zero_le _) rfl dX10_odds_31 (fun r31 enx hw => ?_)
    obtain ⟨rfl, rfl⟩ := hw
    refine G_if_ne hC 44 dX10_odds_34 (by decide) (fun c34 => ?_) (fun c34 => ?_)
    · have h := ifn c34 h
      refine G_aload_n hC 0 1 rfl rfl dX10_odds_44 ?_
      refine G_aload_n hC 0 1 rfl rfl dX10_odds_45 ?_
      refine G_get hC inX10 0 (by omega) (v := .ref (ad 1)) e_tt rfl 0 (by decide) m10 rfl rfl dX10_odds_46 ?_
      refine G_get hC inX1 1 (by omega) (v := .ref (ad (2))) (H_now 0 (by decide)) rfl 0 (by decide) m80 rfl rfl dX10_odds_49 ?_
      refine G_iload_n hC 1 2 rfl rfl dX10_odds_52 ?_
      refine G_iconst hC (v := 5) (by decide) dX10_odds_53 ?_
      obtain ⟨q54, h54, h⟩ := bnd h
      refine G_cVi (st := [.ref (ad 0)]) hC _ (1 + 1) (by omega) (c_X8_number (pp := 1 + 1) l (by omega) (H_now 1 (by decide)) (H_now 2 (by decide)) h54) (cwV 2 hC.hts gX10_odds_X8_number rfl rfl rfl (by decide +kernel) ⟨Nat.le_of_ble_eq_true rfl, Nat.le_of_ble_eq_true rfl⟩) (H_now 1 (by decide)) rfl rfl (Nat.le_of_ble_eq_true rfl) (Nat.zero_le _) (Nat.zero_le _) rfl dX10_odds_54 (fun r54 enx hw => ?_)
      obtain ⟨rfl, rfl⟩ := hw
      refine G_i2l hC dX10_odds_57 ?_
      refine G_aload_n hC 0 1 rfl rfl dX10_odds_58 ?_
      refine G_get hC inX10 0 (by omega) (v := .ref (ad 1)) e_tt rfl 0 (by decide) m10 rfl rfl dX10_odds_59 ?_
      refine G_iload_n hC 2 0 rfl rfl dX10_odds_62 ?_
      obtain ⟨q63, h63, h⟩ := bnd h
      refine G_cSi (st := [.long q54.toInt64, .ref (ad 0)]) hC _ (c_X4_seenOf  l (by omega) H_now h63) (va_cwS 2 hC.hts gX10_odds_X4_seenOf rfl rfl rfl (by decide +kernel) ⟨Nat.le_of_ble_eq_true rfl, Nat.le_of_ble_eq_true rfl⟩) rfl (Nat.le_of_ble_eq_true rfl) (Nat.zero_le _) (Nat.zero_le _) rfl dX10_odds_63 (fun r63 enx hw => ?_)
      obtain ⟨rfl, rfl⟩ := hw
      refine G_i2l hC dX10_odds_66 ?_
      obtain ⟨q67, h67, h⟩ := bnd h
      refine G_cVv (st := []) hC _ 0 (by omega) (c_X10_setFraction  l (by omega) e_tt h67) (cwV 2 hC.hts gX10_odds_X10_setFraction rfl rfl rfl (by decide +kernel) ⟨Nat.le_of_ble_eq_true rfl, Nat.le_of_ble_eq_true rfl⟩) e_tt rfl rfl (Nat.le_of_ble_eq_true rfl) (Nat.zero_le _) (Nat.zero_le _) rfl dX10_odds_67 (fun en2 hw => ?_)
      obtain ⟨e_tt, fr⟩ := hw
      have H_now := H_now.fr (fun j h1 h2 => fr j (by omega))
      have hfr : ∀ j, (j < 0 ∨ 1 ≤ j) → en2 j = en j := fun j o0 => (fr j (by omega)).trans (hfr j o0)
      refine G_iconst hC (v := 1) (by decide) dX10_odds_70 ?_
      have h := Option.some.inj h
      subst h
      exact Kr _ _ _ _ (nar_i _) ⟨rfl, e_tt, hfr⟩ dX10_odds_71
    have h := ifp c34 h
    refine G_aload_n hC 0 1 rfl rfl dX10_odds_37 ?_
    refine G_bipush hC (v := (-3)) (by decide) dX10_odds_38 ?_
    obtain ⟨q40, h40, h⟩ := bnd h
    refine G_cVi (st := []) hC _ 0 (by omega) (c_X10_counted  l (by omega) e_tt h40) (cwV 1 hC.hts gX10_odds_X10_counted rfl rfl rfl (by decide +kernel) ⟨Nat.le_of_ble_eq_true rfl, Nat.le_of_ble_eq_true rfl⟩) e_tt rfl rfl (Nat.le_of_ble_eq_true rfl) (Nat.zero_le _) (Nat.zero_le _) rfl dX10_odds_40 (fun r40 en3 hw => ?_)
    obtain ⟨rfl, e_tt, fr⟩ := hw
    have H_now := H_now.fr (fun j h1 h2 => fr j (by omega))
    have hfr : ∀ j, (j < 0 ∨ 1 ≤ j) → en3 j = en j := fun j o0 => (fr j (by omega)).trans (hfr j o0)
    have h := Option.some.inj h
    subst h
    exact Kr _ _ _ _ (nar_i _) ⟨rfl, e_tt, hfr⟩ dX10_odds_43
  have h := ifp c11 h
  refine G_aload_n hC 0 0 rfl rfl dX10_odds_14 ?_
  refine G_bipush hC (v := (-2)) (by decide) dX10_odds_15 ?_
  obtain ⟨q17, h17, h⟩ := bnd h
  refine G_cVi (st := []) hC _ 0 (by omega) (c_X10_counted  l (by omega) e_tt h17) (cwV 1 hC.hts gX10_odds_X10_counted rfl rfl rfl (by decide +kernel) ⟨Nat.le_of_ble_eq_true rfl, Nat.le_of_ble_eq_true rfl⟩) e_tt rfl rfl (Nat.le_of_ble_eq_true rfl) (Nat.zero_le _) (Nat.zero_le _) rfl dX10_odds_17 (fun r17 en4 hw => ?_)
  obtain ⟨rfl, e_tt, fr⟩ := hw
  have H_now := H_now.fr (fun j h1 h2 => fr j (by omega))
  have hfr : ∀ j, (j < 0 ∨ 1 ≤ j) → en4 j = en j := fun j o0 => (fr j (by omega)).trans (hfr j o0)
  have h := Option.some.inj h
  subst h
  exact Kr _ _ _ _ (nar_i _) ⟨rfl, e_tt, hfr⟩ dX10_odds_20
def f_X10_next (bads : Int32) (noes : Int32) (fulls : Int32) (now : HallV)  : Option (Int32 × Int32 × Int32 × Int32) := Option.bind (f_X4_whoseBits now) (fun q4 => if q4 = 0 then (Option.bind (f_X10_counted bads noes fulls (-3 : Int32)) (fun q15 => some (q15.1, q15.2.1, q15.2.2.1, q15.2.2.2))) else (Option.bind (f_X4_nextPart now q4) (fun q26 => some (q26, bads, noes, fulls))))
set_option maxHeartbeats 4000000 in
set_option maxRecDepth 100000 in
theorem c_X10_next {D : va_G} {cs : Nat → ClassId} {sa : Nat → Nat} {n : Nat} {ad : Nat → Nat} {A : Nat → Prop} (l : Launch) {en : Nat → va_E}  {keptImages : Int32} {fab : Int64} {fbe : Int64} {bads : Int32} {noes : Int32} {fulls : Int32} {now : HallV}   {q : Int32 × Int32 × Int32 × Int32} (hn : 110 ≤ n) (e_tt : en 0 = .inr (7, [.ref (ad 1), .ref (ad 12), .ref (ad 58), .ref (ad 81), .ref (ad 83), .ref (ad 96), .ref (ad 98), .int keptImages, .long fab, .long fbe, .int bads, .int noes, .int fulls])) (H_now : Hall cs ad en 1 now) (h : f_X10_next bads noes fulls now = some q) : Met l yX10_next wsX10_next { frames := 6, cells := 0, slots := 0, locals := 141 } (va_Pc [.ref (ad 0)] (Wd D cs sa n ad A en)) (va_Qi (fun r u => q.1 = r ∧ u 0 = .inr (7, [.ref (ad 1), .ref (ad 12), .ref (ad 58), .ref (ad 81), .ref (ad 83), .ref (ad 96), .ref (ad 98), .int keptImages, .long fab, .long fbe, .int q.2.1, .int q.2.2.1, .int q.2.2.2]) ∧ (∀ j, (j < 0 ∨ 1 ≤ j) → u j = en j)) (Wd D cs sa n ad A) A) 0 0 A := by
  refine G_startI cX10_next 2 [(0, .ref (ad 0))] (by decide) rfl (Nat.le_of_ble_eq_true rfl) rfl ?_
  intro p e s m args below meth c Q hC hnm Kr
  have inX10 : ∀ w ∈ u_ws RX10 TX10 13, w ∈ wsX10_next := by decide +kernel
  have m10 : Cond.fieldLink RX10 10 "TongueTip" "now" "LTongueTip$Hall;" ∈ wsX10_next := by decide +kernel
  unfold f_X10_next at h
  have hfr : ∀ j, (j < 0 ∨ 1 ≤ j) → en j = en j := fun _ _ => rfl
  refine G_aload_n hC 0 0 rfl rfl dX10_next_0 ?_
  refine G_get hC inX10 0 (by omega) (v := .ref (ad 1)) e_tt rfl 0 (by decide) m10 rfl rfl dX10_next_1 ?_
  obtain ⟨q4, h4, h⟩ := bnd h
  refine G_cSi (st := []) hC _ (c_X4_whoseBits  l (by omega) H_now h4) (va_cwS 1 hC.hts gX10_next_X4_whoseBits rfl rfl rfl (by decide +kernel) ⟨Nat.le_of_ble_eq_true rfl, Nat.le_of_ble_eq_true rfl⟩) rfl (Nat.le_of_ble_eq_true rfl) (Nat.zero_le _) (Nat.zero_le _) rfl dX10_next_4 (fun r4 enx hw => ?_)
  obtain ⟨rfl, rfl⟩ := hw
  refine G_istore_n hC 1 [(1, .int q4), (0, .ref (ad 0))] rfl (by decide) rfl dX10_next_7 ?_
  refine G_iload_n hC 1 0 rfl rfl dX10_next_8 ?_
  refine G_if_ne hC 21 dX10_next_9 (by decide) (fun c9 => ?_) (fun c9 => ?_)
  · have h := ifn c9 h
    refine G_aload_n hC 0 1 rfl rfl dX10_next_21 ?_
    refine G_get hC inX10 0 (by omega) (v := .ref (ad 1)) e_tt rfl 0 (by decide) m10 rfl rfl dX10_next_22 ?_
    refine G_iload_n hC 1 0 rfl rfl dX10_next_25 ?_
    obtain ⟨q26, h26, h⟩ := bnd h
    refine G_cSi (st := []) hC _ (c_X4_nextPart  l (by omega) H_now h26) (va_cwS 2 hC.hts gX10_next_X4_nextPart rfl rfl rfl (by decide +kernel) ⟨Nat.le_of_ble_eq_true rfl, Nat.le_of_ble_eq_true rfl⟩) rfl (Nat.le_of_ble_eq_true rfl) (Nat.zero_le _) (Nat.zero_le _) rfl dX10_next_26 (fun r26 enx hw => ?_)
    obtain ⟨rfl, rfl⟩ := hw
    have h := Option.some.inj h
    subst h
    exact Kr _ _ _ _ (nar_i _) ⟨rfl, e_tt, hfr⟩ dX10_next_29
  have h := ifp c9 h
  refine G_aload_n hC 0 1 rfl rfl dX10_next_12 ?_
  refine G_bipush hC (v := (-3)) (by decide) dX10_next_13 ?_
  obtain ⟨q15, h15, h⟩ := bnd h
  refine G_cVi (st := []) hC _ 0 (by omega) (c_X10_counted  l (by omega) e_tt h15) (cwV 1 hC.hts gX10_next_X10_counted rfl rfl rfl (by decide +kernel) ⟨Nat.le_of_ble_eq_true rfl, Nat.le_of_ble_eq_true rfl⟩) e_tt rfl rfl (Nat.le_of_ble_eq_true rfl) (Nat.zero_le _) (Nat.zero_le _) rfl dX10_next_15 (fun r15 en2 hw => ?_)
  obtain ⟨rfl, e_tt, fr⟩ := hw
  have H_now := H_now.fr (fun j h1 h2 => fr j (by omega))
  have hfr : ∀ j, (j < 0 ∨ 1 ≤ j) → en2 j = en j := fun j o0 => (fr j (by omega)).trans (hfr j o0)
  refine G_goto hC 29 dX10_next_18 (by decide) ?_
  have h := Option.some.inj h
  subst h
  exact Kr _ _ _ _ (nar_i _) ⟨rfl, e_tt, hfr⟩ dX10_next_29
def f_X10_question (bads : Int32) (noes : Int32) (fulls : Int32) (now : HallV) (x1 : Int32) (x2 : Int32) : Option (Int32 × Int32 × Int32 × Int32 × HallV) := Option.bind (f_X1_tellQuestion now x1 x2) (fun q7 => Option.bind (f_X10_counted bads noes fulls q7.1) (fun q10 => some (q10.1, q10.2.1, q10.2.2.1, q10.2.2.2, q7.2)))
set_option maxHeartbeats 4000000 in
set_option maxRecDepth 100000 in
theorem c_X10_question {D : va_G} {cs : Nat → ClassId} {sa : Nat → Nat} {n : Nat} {ad : Nat → Nat} {A : Nat → Prop} (l : Launch) {en : Nat → va_E}  {keptImages : Int32} {fab : Int64} {fbe : Int64} {bads : Int32} {noes : Int32} {fulls : Int32} {now : HallV} {x1 : Int32} {x2 : Int32}  {q : Int32 × Int32 × Int32 × Int32 × HallV} (hn : 110 ≤ n) (e_tt : en 0 = .inr (7, [.ref (ad 1), .ref (ad 12), .ref (ad 58), .ref (ad 81), .ref (ad 83), .ref (ad 96), .ref (ad 98), .int keptImages, .long fab, .long fbe, .int bads, .int noes, .int fulls])) (H_now : Hall cs ad en 1 now) (h : f_X10_question bads noes fulls now x1 x2 = some q) : Met l yX10_question wsX10_question { frames := 3, cells := 0, slots := 0, locals := 65 } (va_Pc [.ref (ad 0), .int x1, .int x2] (Wd D cs sa n ad A en)) (va_Qi (fun r u => q.1 = r ∧ u 0 = .inr (7, [.ref (ad 1), .ref (ad 12), .ref (ad 58), .ref (ad 81), .ref (ad 83), .ref (ad 96), .ref (ad 98), .int keptImages, .long fab, .long fbe, .int q.2.1, .int q.2.2.1, .int q.2.2.2.1]) ∧ Hall cs ad u 1 q.2.2.2.2 ∧ (∀ j, (j < 0 ∨ 1 ≤ j) → (j < 1 ∨ 12 ≤ j) → u j = en j)) (Wd D cs sa n ad A) A) 0 0 A := by
  refine G_startI cX10_question 3 [(0, .ref (ad 0)), (1, .int x1), (2, .int x2)] (by decide) rfl (Nat.le_of_ble_eq_true rfl) rfl ?_
  intro p e s m args below meth c Q hC hnm Kr
  have inX10 : ∀ w ∈ u_ws RX10 TX10 13, w ∈ wsX10_question := by decide +kernel
  have m10 : Cond.fieldLink RX10 10 "TongueTip" "now" "LTongueTip$Hall;" ∈ wsX10_question := by decide +kernel
  unfold f_X10_question at h
  have hfr : ∀ j, (j < 0 ∨ 1 ≤ j) → (j < 1 ∨ 12 ≤ j) → en j = en j := fun _ _ _ => rfl
  refine G_aload_n hC 0 0 rfl rfl dX10_question_0 ?_
  refine G_aload_n hC 0 0 rfl rfl dX10_question_1 ?_
  refine G_get hC inX10 0 (by omega) (v := .ref (ad 1)) e_tt rfl 0 (by decide) m10 rfl rfl dX10_question_2 ?_
  refine G_iload_n hC 1 1 rfl rfl dX10_question_5 ?_
  refine G_iload_n hC 2 2 rfl rfl dX10_question_6 ?_
  obtain ⟨q7, h7, h⟩ := bnd h
  refine G_cVi (st := [.ref (ad 0)]) hC _ 1 (by omega) (c_X1_tellQuestion (kk := 1) l (by omega) H_now h7) (cwV 2 hC.hts gX10_question_X1_tellQuestion rfl rfl rfl (by decide +kernel) ⟨Nat.le_of_ble_eq_true rfl, Nat.le_of_ble_eq_true rfl⟩) (H_now 0 (by decide)) rfl rfl (Nat.le_of_ble_eq_true rfl) (Nat.zero_le _) (Nat.zero_le _) rfl dX10_question_7 (fun r7 en2 hw => ?_)
  obtain ⟨rfl, H_now, fr⟩ := hw
  have e_tt := (fr 0 (by omega)).trans e_tt
  have hfr : ∀ j, (j < 0 ∨ 1 ≤ j) → (j < 1 ∨ 12 ≤ j) → en2 j = en j := fun j o0 o1 => (fr j (by omega)).trans (hfr j o0 o1)
  obtain ⟨q10, h10, h⟩ := bnd h
  refine G_cVi (st := []) hC _ 0 (by omega) (c_X10_counted  l (by omega) e_tt h10) (cwV 1 hC.hts gX10_question_X10_counted rfl rfl rfl (by decide +kernel) ⟨Nat.le_of_ble_eq_true rfl, Nat.le_of_ble_eq_true rfl⟩) e_tt rfl rfl (Nat.le_of_ble_eq_true rfl) (Nat.zero_le _) (Nat.zero_le _) rfl dX10_question_10 (fun r10 en3 hw => ?_)
  obtain ⟨rfl, e_tt, fr⟩ := hw
  have H_now := H_now.fr (fun j h1 h2 => fr j (by omega))
  have hfr : ∀ j, (j < 0 ∨ 1 ≤ j) → (j < 1 ∨ 12 ≤ j) → en3 j = en j := fun j o0 o1 => (fr j (by omega)).trans (hfr j o0 o1)
  have h := Option.some.inj h
  subst h
  exact Kr _ _ _ _ (nar_i _) ⟨rfl, e_tt, H_now, hfr⟩ dX10_question_13
def f_X10_ask (bads : Int32) (noes : Int32) (fulls : Int32) (now : HallV)  : Option (Int32 × Int32 × Int32 × Int32) := Option.bind (f_X4_whoseBits now) (fun q4 => if q4 = 0 then (Option.bind (f_X10_counted bads noes fulls (-3 : Int32)) (fun q15 => some (q15.1, q15.2.1, q15.2.2.1, q15.2.2.2))) else (Option.bind (f_X4_bestQuestion now q4) (fun q26 => some (q26, bads, noes, fulls))))
set_option maxHeartbeats 4000000 in
set_option maxRecDepth 100000 in
theorem c_X10_ask {D : va_G} {cs : Nat → ClassId} {sa : Nat → Nat} {n : Nat} {ad : Nat → Nat} {A : Nat → Prop} (l : Launch) {en : Nat → va_E}  {keptImages : Int32} {fab : Int64} {fbe : Int64} {bads : Int32} {noes : Int32} {fulls : Int32} {now : HallV}   {q : Int32 × Int32 × Int32 × Int32} (hn : 110 ≤ n) (e_tt : en 0 = .inr (7, [.ref (ad 1), .ref (ad 12), .ref (ad 58), .ref (ad 81), .ref (ad 83), .ref (ad 96), .ref (ad 98), .int keptImages, .long fab, .long fbe, .int bads, .int noes, .int fulls])) (H_now : Hall cs ad en 1 now) (h : f_X10_ask bads noes fulls now = some q) : Met l yX10_ask wsX10_ask { frames := 6, cells := 0, slots := 0, locals := 144 } (va_Pc [.ref (ad 0)] (Wd D cs sa n ad A en)) (va_Qi (fun r u => q.1 = r ∧ u 0 = .inr (7, [.ref (ad 1), .ref (ad 12), .ref (ad 58), .ref (ad 81), .ref (ad 83), .ref (ad 96), .ref (ad 98), .int keptImages, .long fab, .long fbe, .int q.2.1, .int q.2.2.1, .int q.2.2.2]) ∧ (∀ j, (j < 0 ∨ 1 ≤ j) → u j = en j)) (Wd D cs sa n ad A) A) 0 0 A := by
  refine G_startI cX10_ask 2 [(0, .ref (ad 0))] (by decide) rfl (Nat.le_of_ble_eq_true rfl) rfl ?_
  intro p e s m args below meth c Q hC hnm Kr
  have inX10 : ∀ w ∈ u_ws RX10 TX10 13, w ∈ wsX10_ask := by decide +kernel
  have m10 : Cond.fieldLink RX10 10 "TongueTip" "now" "LTongueTip$Hall;" ∈ wsX10_ask := by decide +kernel
  unfold f_X10_ask at h
  have hfr : ∀ j, (j < 0 ∨ 1 ≤ j) → en j = en j := fun _ _ => rfl
  refine G_aload_n hC 0 0 rfl rfl dX10_ask_0 ?_
  refine G_get hC inX10 0 (by omega) (v := .ref (ad 1)) e_tt rfl 0 (by decide) m10 rfl rfl dX10_ask_1 ?_
  obtain ⟨q4, h4, h⟩ := bnd h
  refine G_cSi (st := []) hC _ (c_X4_whoseBits  l (by omega) H_now h4) (va_cwS 1 hC.hts gX10_ask_X4_whoseBits rfl rfl rfl (by decide +kernel) ⟨Nat.le_of_ble_eq_true rfl, Nat.le_of_ble_eq_true rfl⟩) rfl (Nat.le_of_ble_eq_true rfl) (Nat.zero_le _) (Nat.zero_le _) rfl dX10_ask_4 (fun r4 enx hw => ?_)
  obtain ⟨rfl, rfl⟩ := hw
  refine G_istore_n hC 1 [(1, .int q4), (0, .ref (ad 0))] rfl (by decide) rfl dX10_ask_7 ?_
  refine G_iload_n hC 1 0 rfl rfl dX10_ask_8 ?_
  refine G_if_ne hC 21 dX10_ask_9 (by decide) (fun c9 => ?_) (fun c9 => ?_)
  · have h := ifn c9 h
    refine G_aload_n hC 0 1 rfl rfl dX10_ask_21 ?_
    refine G_get hC inX10 0 (by omega) (v := .ref (ad 1)) e_tt rfl 0 (by decide) m10 rfl rfl dX10_ask_22 ?_
    refine G_iload_n hC 1 0 rfl rfl dX10_ask_25 ?_
    obtain ⟨q26, h26, h⟩ := bnd h
    refine G_cSi (st := []) hC _ (c_X4_bestQuestion  l (by omega) H_now h26) (va_cwS 2 hC.hts gX10_ask_X4_bestQuestion rfl rfl rfl (by decide +kernel) ⟨Nat.le_of_ble_eq_true rfl, Nat.le_of_ble_eq_true rfl⟩) rfl (Nat.le_of_ble_eq_true rfl) (Nat.zero_le _) (Nat.zero_le _) rfl dX10_ask_26 (fun r26 enx hw => ?_)
    obtain ⟨rfl, rfl⟩ := hw
    have h := Option.some.inj h
    subst h
    exact Kr _ _ _ _ (nar_i _) ⟨rfl, e_tt, hfr⟩ dX10_ask_29
  have h := ifp c9 h
  refine G_aload_n hC 0 1 rfl rfl dX10_ask_12 ?_
  refine G_bipush hC (v := (-3)) (by decide) dX10_ask_13 ?_
  obtain ⟨q15, h15, h⟩ := bnd h
  refine G_cVi (st := []) hC _ 0 (by omega) (c_X10_counted  l (by omega) e_tt h15) (cwV 1 hC.hts gX10_ask_X10_counted rfl rfl rfl (by decide +kernel) ⟨Nat.le_of_ble_eq_true rfl, Nat.le_of_ble_eq_true rfl⟩) e_tt rfl rfl (Nat.le_of_ble_eq_true rfl) (Nat.zero_le _) (Nat.zero_le _) rfl dX10_ask_15 (fun r15 en2 hw => ?_)
  obtain ⟨rfl, e_tt, fr⟩ := hw
  have H_now := H_now.fr (fun j h1 h2 => fr j (by omega))
  have hfr : ∀ j, (j < 0 ∨ 1 ≤ j) → en2 j = en j := fun j o0 => (fr j (by omega)).trans (hfr j o0)
  refine G_goto hC 29 dX10_ask_18 (by decide) ?_
  have h := Option.some.inj h
  subst h
  exact Kr _ _ _ _ (nar_i _) ⟨rfl, e_tt, hfr⟩ dX10_ask_29
def f_X10_index (now : HallV)  : Option (Int32) := Option.bind (f_X4_fewestApart now) (fun q4 => some q4)
set_option maxHeartbeats 4000000 in
set_option maxRecDepth 100000 in
theorem c_X10_index {D : va_G} {cs : Nat → ClassId} {sa : Nat → Nat} {n : Nat} {ad : Nat → Nat} {A : Nat → Prop} (l : Launch) {en : Nat → va_E}  {keptImages : Int32} {fab : Int64} {fbe : Int64} {bads : Int32} {noes : Int32} {fulls : Int32} {now : HallV}   {q : Int32} (hn : 110 ≤ n) (e_tt : en 0 = .inr (7, [.ref (ad 1), .ref (ad 12), .ref (ad 58), .ref (ad 81), .ref (ad 83), .ref (ad 96), .ref (ad 98), .int keptImages, .long fab, .long fbe, .int bads, .int noes, .int fulls])) (H_now : Hall cs ad en 1 now) (h : f_X10_index now = some q) : Met l yX10_index wsX10_index { frames := 6, cells := 0, slots := 0, locals := 138 } (va_Pc [.ref (ad 0)] (Wd D cs sa n ad A en)) (va_Qi (fun r u => q = r ∧ en = u) (Wd D cs sa n ad A) A) 0 0 A := by
  refine G_startI cX10_index 1 [(0, .ref (ad 0))] (by decide) rfl (Nat.le_of_ble_eq_true rfl) rfl ?_
  intro p e s m args below meth c Q hC hnm Kr
  have inX10 : ∀ w ∈ u_ws RX10 TX10 13, w ∈ wsX10_index := by decide +kernel
  have m10 : Cond.fieldLink RX10 10 "TongueTip" "now" "LTongueTip$Hall;" ∈ wsX10_index := by decide +kernel
  unfold f_X10_index at h
  refine G_aload_n hC 0 0 rfl rfl dX10_index_0 ?_
  refine G_get hC inX10 0 (by omega) (v := .ref (ad 1)) e_tt rfl 0 (by decide) m10 rfl rfl dX10_index_1 ?_
  obtain ⟨q4, h4, h⟩ := bnd h
  refine G_cSi (st := []) hC _ (c_X4_fewestApart  l (by omega) H_now h4) (va_cwS 1 hC.hts gX10_index_X4_fewestApart rfl rfl rfl (by decide +kernel) ⟨Nat.le_of_ble_eq_true rfl, Nat.le_of_ble_eq_true rfl⟩) rfl (Nat.le_of_ble_eq_true rfl) (Nat.zero_le _) (Nat.zero_le _) rfl dX10_index_4 (fun r4 enx hw => ?_)
  obtain ⟨rfl, rfl⟩ := hw
  have h := Option.some.inj h
  subst h
  exact Kr _ _ _ _ (nar_i _) ⟨rfl, rfl⟩ dX10_index_7
def f_X10_takenFor_B15 (now : HallV)  (bads : Int32) (noes : Int32) (fulls : Int32) : Option (Int32 × Int32 × Int32 × Int32) := Option.bind (f_X10_countedBadTen bads noes fulls) (fun q16 => some (q16.1, q16.2.1, q16.2.2.1, q16.2.2.2))
def f_X10_takenFor (bads : Int32) (noes : Int32) (fulls : Int32) (now : HallV) (x1 : Int32) (x2 : Int32) : Option (Int32 × Int32 × Int32 × Int32) := Option.bind (f_X10_within x1 (0 : Int32) (7 : Int32)) (fun q4 => if q4 = 0 then (f_X10_takenFor_B15 now bads noes fulls) else (if (-1 : Int32) ≤ x2 then (Option.bind (f_X4_takenPair now x1 x2) (fun q26 => some (q26, bads, noes, fulls))) else (f_X10_takenFor_B15 now bads noes fulls)))
set_option maxHeartbeats 4000000 in
set_option maxRecDepth 100000 in
theorem c_X10_takenFor {D : va_G} {cs : Nat → ClassId} {sa : Nat → Nat} {n : Nat} {ad : Nat → Nat} {A : Nat → Prop} (l : Launch) {en : Nat → va_E}  {keptImages : Int32} {fab : Int64} {fbe : Int64} {bads : Int32} {noes : Int32} {fulls : Int32} {now : HallV} {x1 : Int32} {x2 : Int32}  {q : Int32 × Int32 × Int32 × Int32} (hn : 110 ≤ n) (e_tt : en 0 = .inr (7, [.ref (ad 1), .ref (ad 12), .ref (ad 58), .ref (ad 81), .ref (ad 83), .ref (ad 96), .ref (ad 98), .int keptImages, .long fab, .long fbe, .int bads, .int noes, .int fulls])) (H_now : Hall cs ad en 1 now) (h : f_X10_takenFor bads noes fulls now x1 x2 = some q) : Met l yX10_takenFor wsX10_takenFor { frames := 4, cells := 0, slots := 0, locals := 99 } (va_Pc [.ref (ad 0), .int x1, .int x2] (Wd D cs sa n ad A en)) (va_Qi (fun r u => q.1 = r ∧ u 0 = .inr (7, [.ref (ad 1), .ref (ad 12), .ref (ad 58), .ref (ad 81), .ref (ad 83), .ref (ad 96), .ref (ad 98), .int keptImages, .long fab, .long fbe, .int q.2.1, .int q.2.2.1, .int q.2.2.2]) ∧ (∀ j, (j < 0 ∨ 1 ≤ j) → u j = en j)) (Wd D cs sa n ad A) A) 0 0 A := by
  refine G_startI cX10_takenFor 3 [(0, .ref (ad 0)), (1, .int x1), (2, .int x2)] (by decide) rfl (Nat.le_of_ble_eq_true rfl) rfl ?_
  intro p e s m args below meth c Q hC hnm Kr
  have inX10 : ∀ w ∈ u_ws RX10 TX10 13, w ∈ wsX10_takenFor := by decide +kernel
  have m10 : Cond.fieldLink RX10 10 "TongueTip" "now" "LTongueTip$Hall;" ∈ wsX10_takenFor := by decide +kernel
  have hB15 : ∀ (en1 : Nat → va_E) (bads : Int32) (noes : Int32) (fulls : Int32), en1 0 = .inr (7, [.ref (ad 1), .ref (ad 12), .ref (ad 58), .ref (ad 81), .ref (ad 83), .ref (ad 96), .ref (ad 98), .int keptImages, .long fab, .long fbe, .int bads, .int noes, .int fulls]) → Hall cs ad en1 1 now → (∀ j, (j < 0 ∨ 1 ≤ j) → en1 j = en j) → f_X10_takenFor_B15 now bads noes fulls = some q → G p l e ({ frames := 4, cells := 0, slots := 0, locals := 99 } : Room) s m args below meth c D n ad A 3 0 0 Q en1 15 [(0, .ref (ad 0))] [] := by
    intro en1 bads noes fulls e_tt H_now hfr h
    unfold f_X10_takenFor_B15 at h
    refine G_aload_n hC 0 0 rfl rfl dX10_takenFor_15 ?_
    obtain ⟨q16, h16, h⟩ := bnd h
    refine G_cVi (st := []) hC _ 0 (by omega) (c_X10_countedBadTen  l (by omega) e_tt h16) (cwV 0 hC.hts gX10_takenFor_X10_countedBadTen rfl rfl rfl (by decide +kernel) ⟨Nat.le_of_ble_eq_true rfl, Nat.le_of_ble_eq_true rfl⟩) e_tt rfl rfl (Nat.le_of_ble_eq_true rfl) (Nat.zero_le _) (Nat.zero_le _) rfl dX10_takenFor_16 (fun r16 en2 hw => ?_)
    obtain ⟨rfl, e_tt, fr⟩ := hw
    have H_now := H_now.fr (fun j h1 h2 => fr j (by omega))
    have hfr : ∀ j, (j < 0 ∨ 1 ≤ j) → en2 j = en j := fun j o0 => (fr j (by omega)).trans (hfr j o0)
    have h := Option.some.inj h
    subst h
    exact Kr _ _ _ _ (nar_i _) ⟨rfl, e_tt, hfr⟩ dX10_takenFor_19
  unfold f_X10_takenFor at h
  have hfr : ∀ j, (j < 0 ∨ 1 ≤ j) → en j = en j := fun _ _ => rfl
  refine G_iload_n hC 1 1 rfl rfl dX10_takenFor_0 ?_
  refine G_iconst hC (v := 0) (by decide) dX10_takenFor_1 ?_
  refine G_bipush hC (v := 7) (by decide) dX10_takenFor_2 ?_
  obtain ⟨q4, h4, h⟩ := bnd h
  refine G_cSi (st := []) hC _ (c_X10_within  l  h4) (va_cwS 3 hC.hts gX10_takenFor_X10_within rfl rfl rfl (by decide +kernel) ⟨Nat.le_of_ble_eq_true rfl, Nat.le_of_ble_eq_true rfl⟩) rfl (Nat.le_of_ble_eq_true rfl) (Nat.zero_le _) (Nat.zero_le _) rfl dX10_takenFor_4 (fun r4 enx hw => ?_)
  obtain ⟨rfl, rfl⟩ := hw
  refine G_if_eq hC 15 dX10_takenFor_7 (by decide) (fun c7 => ?_) (fun c7 => ?_)
  · have h := ifp c7 h
    refine G_lv [0] rfl ?_
    exact hB15 _ _ _ _ e_tt H_now hfr h
  have h := ifn c7 h
  refine G_iload_n hC 2 2 rfl rfl dX10_takenFor_10 ?_
  refine G_iconst hC (v := (-1)) (by decide) dX10_takenFor_11 ?_
  refine G_icmp_ge hC 20 dX10_takenFor_12 (by decide) (fun c12 => ?_) (fun c12 => ?_)
  · have h := ifp c12 h
    refine G_aload_n hC 0 0 rfl rfl dX10_takenFor_20 ?_
    refine G_get hC inX10 0 (by omega) (v := .ref (ad 1)) e_tt rfl 0 (by decide) m10 rfl rfl dX10_takenFor_21 ?_
    refine G_iload_n hC 1 1 rfl rfl dX10_takenFor_24 ?_
    refine G_iload_n hC 2 2 rfl rfl dX10_takenFor_25 ?_
    obtain ⟨q26, h26, h⟩ := bnd h
    refine G_cSi (st := []) hC _ (c_X4_takenPair  l (by omega) H_now h26) (va_cwS 3 hC.hts gX10_takenFor_X4_takenPair rfl rfl rfl (by decide +kernel) ⟨Nat.le_of_ble_eq_true rfl, Nat.le_of_ble_eq_true rfl⟩) rfl (Nat.le_of_ble_eq_true rfl) (Nat.zero_le _) (Nat.zero_le _) rfl dX10_takenFor_26 (fun r26 enx hw => ?_)
    obtain ⟨rfl, rfl⟩ := hw
    have h := Option.some.inj h
    subst h
    exact Kr _ _ _ _ (nar_i _) ⟨rfl, e_tt, hfr⟩ dX10_takenFor_29
  have h := ifn c12 h
  refine G_lv [0] rfl ?_
  exact hB15 _ _ _ _ e_tt H_now hfr h
def f_X10_learn_B81 (now : HallV)  (bads : Int32) (noes : Int32) (fulls : Int32) (nmost : Nat → Int32) (nlearnt : Int32) : Option (Int32 × Int32 × Int32 × Int32 × (Nat → Int32) × Int32) := Option.bind (f_X10_countedBadTen bads noes fulls) (fun q82 => some (q82.1, q82.2.1, q82.2.2.1, q82.2.2.2, nmost, nlearnt))
def f_X10_learn_B59 (now : HallV)  (bads : Int32) (noes : Int32) (fulls : Int32) (nmost : Nat → Int32) (nlearnt : Int32) (x1 : Int32) (x2 : Int32) (x3 : Int32) (x4 : Int32) (s0 : Int32) : Option (Int32 × Int32 × Int32 × Int32 × (Nat → Int32) × Int32) := if x4 = 0 then (if s0 = 0 then (Option.bind (f_X10_within x2 (0 : Int32) (99 : Int32)) (fun q75 => if q75 = 0 then (f_X10_learn_B81 now bads noes fulls nmost nlearnt) else (Option.bind (f_X3_plan now nmost nlearnt x1 x2) (fun q96 => if x3 = (-1 : Int32) then (Option.bind (f_X3_mostLeft q96.1 x2) (fun q109 => some (q109, bads, noes, fulls, q96.1, q96.2))) else (Option.bind (f_X3_timesOf now q96.1 q96.2 x2 x3) (fun q125 => some (q125, bads, noes, fulls, q96.1, q96.2))))))) else (f_X10_learn_B81 now bads noes fulls nmost nlearnt)) else (f_X10_learn_B81 now bads noes fulls nmost nlearnt)
def f_X10_learn_B58 (now : HallV)  (bads : Int32) (noes : Int32) (fulls : Int32) (nmost : Nat → Int32) (nlearnt : Int32) (x1 : Int32) (x2 : Int32) (x3 : Int32) (x4 : Int32) : Option (Int32 × Int32 × Int32 × Int32 × (Nat → Int32) × Int32) := f_X10_learn_B59 now bads noes fulls nmost nlearnt x1 x2 x3 x4 (0 : Int32)
def f_X10_learn_B54 (now : HallV)  (bads : Int32) (noes : Int32) (fulls : Int32) (nmost : Nat → Int32) (nlearnt : Int32) (x1 : Int32) (x2 : Int32) (x3 : Int32) (x4 : Int32) : Option (Int32 × Int32 × Int32 × Int32 × (Nat → Int32) × Int32) := f_X10_learn_B59 now bads noes fulls nmost nlearnt x1 x2 x3 x4 (1 : Int32)
def f_X10_learn_B25 (now : HallV)  (bads : Int32) (noes : Int32) (fulls : Int32) (nmost : Nat → Int32) (nlearnt : Int32) (x1 : Int32) (x2 : Int32) (x3 : Int32) (s0 : Int32) : Option (Int32 × Int32 × Int32 × Int32 × (Nat → Int32) × Int32) := if x3 = (-1 : Int32) then (f_X10_learn_B58 now bads noes fulls nmost nlearnt x1 x2 x3 s0) else (Option.bind (f_X8_holds (now.1 0) x3) (fun q40 => if q40 = 0 then (f_X10_learn_B54 now bads noes fulls nmost nlearnt x1 x2 x3 s0) else (Option.bind (f_X10_isIn x1 x3) (fun q48 => if q48 = 0 then (f_X10_learn_B54 now bads noes fulls nmost nlearnt x1 x2 x3 s0) else (f_X10_learn_B58 now bads noes fulls nmost nlearnt x1 x2 x3 s0)))))
def f_X10_learn_B20 (now : HallV)  (bads : Int32) (noes : Int32) (fulls : Int32) (nmost : Nat → Int32) (nlearnt : Int32) (x1 : Int32) (x2 : Int32) (x3 : Int32) : Option (Int32 × Int32 × Int32 × Int32 × (Nat → Int32) × Int32) := f_X10_learn_B25 now bads noes fulls nmost nlearnt x1 x2 x3 (1 : Int32)
def f_X10_learn (bads : Int32) (noes : Int32) (fulls : Int32) (now : HallV) (nmost : Nat → Int32) (nlearnt : Int32) (x1 : Int32) (x2 : Int32) (x3 : Int32) : Option (Int32 × Int32 × Int32 × Int32 × (Nat → Int32) × Int32) := if x1 < 0 then (f_X10_learn_B20 now bads noes fulls nmost nlearnt x1 x2 x3) else (Option.bind (f_X8_size (now.1 0)) (fun q13 => if x1 < (1 : Int32) <<< (q13 &&& (31 : Int32)) then (f_X10_learn_B25 now bads noes fulls nmost nlearnt x1 x2 x3 (0 : Int32)) else (f_X10_learn_B20 now bads noes fulls nmost nlearnt x1 x2 x3)))
set_option maxHeartbeats 4000000 in
set_option maxRecDepth 100000 in
theorem c_X10_learn {D : va_G} {cs : Nat → ClassId} {sa : Nat → Nat} {n : Nat} {ad : Nat → Nat} {A : Nat → Prop} (l : Launch) {en : Nat → va_E}  {keptImages : Int32} {fab : Int64} {fbe : Int64} {bads : Int32} {noes : Int32} {fulls : Int32} {now : HallV} {nmost : Nat → Int32} {nlearnt : Int32} {x1 : Int32} {x2 : Int32} {x3 : Int32}  {q : Int32 × Int32 × Int32 × Int32 × (Nat → Int32) × Int32} (hn : 110 ≤ n) (e_tt : en 0 = .inr (7, [.ref (ad 1), .ref (ad 12), .ref (ad 58), .ref (ad 81), .ref (ad 83), .ref (ad 96), .ref (ad 98), .int keptImages, .long fab, .long fbe, .int bads, .int noes, .int fulls])) (e_night : en 98 = .inr (1, [.ref (ad 99), .int nlearnt])) (e_nmostarr : en 99 = .inl (cs 1, 1300, .inl (nmost))) (H_now : Hall cs ad en 1 now) (h : f_X10_learn bads noes fulls now nmost nlearnt x1 x2 x3 = some q) : Met l yX10_learn wsX10_learn { frames := 6, cells := 0, slots := 0, locals := 146 } (va_Pc [.ref (ad 0), .int x1, .int x2, .int x3] (Wd D cs sa n ad A en)) (va_Qi (fun r u => q.1 = r ∧ u 0 = .inr (7, [.ref (ad 1), .ref (ad 12), .ref (ad 58), .ref (ad 81), .ref (ad 83), .ref (ad 96), .ref (ad 98), .int keptImages, .long fab, .long fbe, .int q.2.1, .int q.2.2.1, .int q.2.2.2.1]) ∧ u 98 = .inr (1, [.ref (ad 99), .int q.2.2.2.2.2]) ∧ u 99 = .inl (cs 1, 1300, .inl (q.2.2.2.2.1)) ∧ (∀ j, (j < 0 ∨ 1 ≤ j) → (j < 98 ∨ 99 ≤ j) → (j < 99 ∨ 100 ≤ j) → u j = en j)) (Wd D cs sa n ad A) A) 0 0 A := by
  refine G_startI cX10_learn 6 [(0, .ref (ad 0)), (1, .int x1), (2, .int x2), (3, .int x3)] (by decide) rfl (Nat.le_of_ble_eq_true rfl) rfl ?_
  intro p e s m args below meth c Q hC hnm Kr
  have inX1 : ∀ w ∈ u_ws RX1 TX1 6, w ∈ wsX10_learn := by decide +kernel
  have inX10 : ∀ w ∈ u_ws RX10 TX10 13, w ∈ wsX10_learn := by decide +kernel
  have m10 : Cond.fieldLink RX10 10 "TongueTip" "now" "LTongueTip$Hall;" ∈ wsX10_learn := by decide +kernel
  have m53 : Cond.fieldLink RX10 53 "TongueTip" "night" "LTongueTip$Night;" ∈ wsX10_learn := by decide +kernel
  have m80 : Cond.fieldLink RX10 80 "TongueTip$Hall" "people" "LTongueTip$Table;" ∈ wsX10_learn := by decide +kernel
  have hB81 : ∀ (en1 : Nat → va_E) (bads : Int32) (noes : Int32) (fulls : Int32) (nmost : Nat → Int32) (nlearnt : Int32), en1 0 = .inr (7, [.ref (ad 1), .ref (ad 12), .ref (ad 58), .ref (ad 81), .ref (ad 83), .ref (ad 96), .ref (ad 98), .int keptImages, .long fab, .long fbe, .int bads, .int noes, .int fulls]) → en1 98 = .inr (1, [.ref (ad 99), .int nlearnt]) → en1 99 = .inl (cs 1, 1300, .inl (nmost)) → Hall cs ad en1 1 now → (∀ j, (j < 0 ∨ 1 ≤ j) → (j < 98 ∨ 99 ≤ j) → (j < 99 ∨ 100 ≤ j) → en1 j = en j) → f_X10_learn_B81 now bads noes fulls nmost nlearnt = some q → G p l e ({ frames := 6, cells := 0, slots := 0, locals := 146 } : Room) s m args below meth c D n ad A 6 0 0 Q en1 81 [(0, .ref (ad 0))] [] := by
    intro en1 bads noes fulls nmost nlearnt e_tt e_night e_nmostarr H_now hfr h
    unfold f_X10_learn_B81 at h
    refine G_aload_n hC 0 0 rfl rfl dX10_learn_81 ?_
    obtain ⟨q82, h82, h⟩ := bnd h
    refine G_cVi (st := []) hC _ 0 (by omega) (c_X10_countedBadTen  l (by omega) e_tt h82) (cwV 0 hC.hts gX10_learn_X10_countedBadTen rfl rfl rfl (by decide +kernel) ⟨Nat.le_of_ble_eq_true rfl, Nat.le_of_ble_eq_true rfl⟩) e_tt rfl rfl (Nat.le_of_ble_eq_true rfl) (Nat.zero_le _) (Nat.zero_le _) rfl dX10_learn_82 (fun r82 en2 hw => ?_)
    obtain ⟨rfl, e_tt, fr⟩ := hw
    have e_night := (fr 98 (by omega)).trans e_night
    have e_nmostarr := (fr 99 (by omega)).trans e_nmostarr
    have H_now := H_now.fr (fun j h1 h2 => fr j (by omega))
    have hfr : ∀ j, (j < 0 ∨ 1 ≤ j) → (j < 98 ∨ 99 ≤ j) → (j < 99 ∨ 100 ≤ j) → en2 j = en j := fun j o0 o1 o2 => (fr j (by omega)).trans (hfr j o0 o1 o2)
    have h := Option.some.inj h
    subst h
    exact Kr _ _ _ _ (nar_i _) ⟨rfl, e_tt, e_night, e_nmostarr, hfr⟩ dX10_learn_85
  have hB59 : ∀ (en1 : Nat → va_E) (bads : Int32) (noes : Int32) (fulls : Int32) (nmost : Nat → Int32) (nlearnt : Int32) (x1 : Int32) (x2 : Int32) (x3 : Int32) (x4 : Int32) (s0 : Int32), en1 0 = .inr (7, [.ref (ad 1), .ref (ad 12), .ref (ad 58), .ref (ad 81), .ref (ad 83), .ref (ad 96), .ref (ad 98), .int keptImages, .long fab, .long fbe, .int bads, .int noes, .int fulls]) → en1 98 = .inr (1, [.ref (ad 99), .int nlearnt]) → en1 99 = .inl (cs 1, 1300, .inl (nmost)) → Hall cs ad en1 1 now → (∀ j, (j < 0 ∨ 1 ≤ j) → (j < 98 ∨ 99 ≤ j) → (j < 99 ∨ 100 ≤ j) → en1 j = en j) → f_X10_learn_B59 now bads noes fulls nmost nlearnt x1 x2 x3 x4 s0 = some q → G p l e ({ frames := 6, cells := 0, slots := 0, locals := 146 } : Room) s m args below meth c D n ad A 6 0 0 Q en1 59 [(0, .ref (ad 0)), (1, .int x1), (2, .int x2), (3, .int x3), (4, .int x4)] [.int s0] := by
    intro en1 bads noes fulls nmost nlearnt x1 x2 x3 x4 s0 e_tt e_night e_nmostarr H_now hfr h
    unfold f_X10_learn_B59 at h
    refine G_istore hC 5 [(5, .int s0), (0, .ref (ad 0)), (1, .int x1), (2, .int x2), (3, .int x3), (4, .int x4)] (by decide) rfl dX10_learn_59 ?_
    refine G_iload hC 4 5 rfl dX10_learn_61 ?_
    refine G_if_ne hC 81 dX10_learn_63 (by decide) (fun c63 => ?_) (fun c63 => ?_)
    · have h := ifn c63 h
      refine G_lv [1] rfl ?_
      exact hB81 _ _ _ _ _ _ e_tt e_night e_nmostarr H_now hfr h
    have h := ifp c63 h
    refine G_iload hC 5 0 rfl dX10_learn_66 ?_
    refine G_if_ne hC 81 dX10_learn_68 (by decide) (fun c68 => ?_) (fun c68 => ?_)
    · have h := ifn c68 h
      refine G_lv [1] rfl ?_
      exact hB81 _ _ _ _ _ _ e_tt e_night e_nmostarr H_now hfr h
    have h := ifp c68 h
    refine G_iload_n hC 2 3 rfl rfl dX10_learn_71 ?_
    refine G_iconst hC (v := 0) (by decide) dX10_learn_72 ?_
    refine G_bipush hC (v := 99) (by decide) dX10_learn_73 ?_
    obtain ⟨q75, h75, h⟩ := bnd h
    refine G_cSi (st := []) hC _ (c_X10_within  l  h75) (va_cwS 3 hC.hts gX10_learn_X10_within rfl rfl rfl (by decide +kernel) ⟨Nat.le_of_ble_eq_true rfl, Nat.le_of_ble_eq_true rfl⟩) rfl (Nat.le_of_ble_eq_true rfl) (Nat.zero_le _) (Nat.zero_le _) rfl dX10_learn_75 (fun r75 enx hw => ?_)
    obtain ⟨rfl, rfl⟩ := hw
    refine G_if_ne hC 86 dX10_learn_78 (by decide) (fun c78 => ?_) (fun c78 => ?_)
    · have h := ifn c78 h
      refine G_aload_n hC 0 1 rfl rfl dX10_learn_86 ?_
      refine G_get hC inX10 0 (by omega) (v := .ref (ad 98)) e_tt rfl 6 (by decide) m53 rfl rfl dX10_learn_87 ?_
      refine G_aload_n hC 0 1 rfl rfl dX10_learn_90 ?_
      refine G_get hC inX10 0 (by omega) (v := .ref (ad 1)) e_tt rfl 0 (by decide) m10 rfl rfl dX10_learn_91 ?_
      refine G_iload_n hC 1 2 rfl rfl dX10_learn_94 ?_
      refine G_iload_n hC 2 3 rfl rfl dX10_learn_95 ?_
      obtain ⟨q96, h96, h⟩ := bnd h
      refine G_cVv (st := []) hC _ 98 (by omega) (c_X3_plan  l (by omega) e_night e_nmostarr H_now h96) (cwV 3 hC.hts gX10_learn_X3_plan rfl rfl rfl (by decide +kernel) ⟨Nat.le_of_ble_eq_true rfl, Nat.le_of_ble_eq_true rfl⟩) e_night rfl rfl (Nat.le_of_ble_eq_true rfl) (Nat.zero_le _) (Nat.zero_le _) rfl dX10_learn_96 (fun en2 hw => ?_)
      obtain ⟨e_night, e_nmostarr, fr⟩ := hw
      have e_tt := (fr 0 (by omega) (by omega)).trans e_tt
      have H_now := H_now.fr (fun j h1 h2 => fr j (by omega) (by omega))
      have hfr : ∀ j, (j < 0 ∨ 1 ≤ j) → (j < 98 ∨ 99 ≤ j) → (j < 99 ∨ 100 ≤ j) → en2 j = en j := fun j o0 o1 o2 => (fr j (by omega) (by omega)).trans (hfr j o0 o1 o2)
      refine G_iload_n hC 3 4 rfl rfl dX10_learn_99 ?_
      refine G_iconst hC (v := (-1)) (by decide) dX10_learn_100 ?_
      refine G_icmp_ne hC 115 dX10_learn_101 (by decide) (fun c101 => ?_) (fun c101 => ?_)
      · have h := ifn c101 h
        refine G_aload_n hC 0 1 rfl rfl dX10_learn_115 ?_
        refine G_get hC inX10 0 (by omega) (v := .ref (ad 98)) e_tt rfl 6 (by decide) m53 rfl rfl dX10_learn_116 ?_
        refine G_aload_n hC 0 1 rfl rfl dX10_learn_119 ?_
        refine G_get hC inX10 0 (by omega) (v := .ref (ad 1)) e_tt rfl 0 (by decide) m10 rfl rfl dX10_learn_120 ?_
        refine G_iload_n hC 2 3 rfl rfl dX10_learn_123 ?_
        refine G_iload_n hC 3 4 rfl rfl dX10_learn_124 ?_
        obtain ⟨q125, h125, h⟩ := bnd h
        refine G_cVi (st := []) hC _ 98 (by omega) (c_X3_timesOf  l (by omega) e_night e_nmostarr H_now h125) (cwV 3 hC.hts gX10_learn_X3_timesOf rfl rfl rfl (by decide +kernel) ⟨Nat.le_of_ble_eq_true rfl, Nat.le_of_ble_eq_true rfl⟩) e_night rfl rfl (Nat.le_of_ble_eq_true rfl) (Nat.zero_le _) (Nat.zero_le _) rfl dX10_learn_125 (fun r125 enx hw => ?_)
        obtain ⟨rfl, rfl⟩ := hw
        have h := Option.some.inj h
        subst h
        exact Kr _ _ _ _ (nar_i _) ⟨rfl, e_tt, e_night, e_nmostarr, hfr⟩ dX10_learn_128
      have h := ifp c101 h
      refine G_aload_n hC 0 1 rfl rfl dX10_learn_104 ?_
      refine G_get hC inX10 0 (by omega) (v := .ref (ad 98)) e_tt rfl 6 (by decide) m53 rfl rfl dX10_learn_105 ?_
      refine G_iload_n hC 2 3 rfl rfl dX10_learn_108 ?_
      obtain ⟨q109, h109, h⟩ := bnd h
      refine G_cVi (st := []) hC _ 98 (by omega) (c_X3_mostLeft  l (by omega) e_night e_nmostarr h109) (cwV 1 hC.hts gX10_learn_X3_mostLeft rfl rfl rfl (by decide +kernel) ⟨Nat.le_of_ble_eq_true rfl, Nat.le_of_ble_eq_true rfl⟩) e_night rfl rfl (Nat.le_of_ble_eq_true rfl) (Nat.zero_le _) (Nat.zero_le _) rfl dX10_learn_109 (fun r109 enx hw => ?_)
      obtain ⟨rfl, rfl⟩ := hw
      refine G_goto hC 128 dX10_learn_112 (by decide) ?_
      have h := Option.some.inj h
      subst h
      exact Kr _ _ _ _ (nar_i _) ⟨rfl, e_tt, e_night, e_nmostarr, hfr⟩ dX10_learn_128
    have h := ifp c78 h
    refine G_lv [1] rfl ?_
    exact hB81 _ _ _ _ _ _ e_tt e_night e_nmostarr H_now hfr h
  have hB58 : ∀ (en1 : Nat → va_E) (bads : Int32) (noes : Int32) (fulls : Int32) (nmost : Nat → Int32) (nlearnt : Int32) (x1 : Int32) (x2 : Int32) (x3 : Int32) (x4 : Int32), en1 0 = .inr (7, [.ref (ad 1), .ref (ad 12), .ref (ad 58), .ref (ad 81), .ref (ad 83), .ref (ad 96), .ref (ad 98), .int keptImages, .long fab, .long fbe, .int bads, .int noes, .int fulls]) → en1 98 = .inr (1, [.ref (ad 99), .int nlearnt]) → en1 99 = .inl (cs 1, 1300, .inl (nmost)) → Hall cs ad en1 1 now → (∀ j, (j < 0 ∨ 1 ≤ j) → (j < 98 ∨ 99 ≤ j) → (j < 99 ∨ 100 ≤ j) → en1 j = en j) → f_X10_learn_B58 now bads noes fulls nmost nlearnt x1 x2 x3 x4 = some q → G p l e ({ frames := 6, cells := 0, slots := 0, locals := 146 } : Room) s m args below meth c D n ad A 6 0 0 Q en1 58 [(0, .ref (ad 0)), (1, .int x1), (2, .int x2), (3, .int x3), (4, .int x4)] [] := by
    intro en1 bads noes fulls nmost nlearnt x1 x2 x3 x4 e_tt e_night e_nmostarr H_now hfr h
    unfold f_X10_learn_B58 at h
    refine G_iconst hC (v := 0) (by decide) dX10_learn_58 ?_
    refine G_lv [0, 1, 2, 3, 4] rfl ?_
    exact hB59 _ _ _ _ _ _ _ _ _ _ _ e_tt e_night e_nmostarr H_now hfr h
  have hB54 : ∀ (en1 : Nat → va_E) (bads : Int32) (noes : Int32) (fulls : Int32) (nmost : Nat → Int32) (nlearnt : Int32) (x1 : Int32) (x2 : Int32) (x3 : Int32) (x4 : Int32), en1 0 = .inr (7, [.ref (ad 1), .ref (ad 12), .ref (ad 58), .ref (ad 81), .ref (ad 83), .ref (ad 96), .ref (ad 98), .int keptImages, .long fab, .long fbe, .int bads, .int noes, .int fulls]) → en1 98 = .inr (1, [.ref (ad 99), .int nlearnt]) → en1 99 = .inl (cs 1, 1300, .inl (nmost)) → Hall cs ad en1 1 now → (∀ j, (j < 0 ∨ 1 ≤ j) → (j < 98 ∨ 99 ≤ j) → (j < 99 ∨ 100 ≤ j) → en1 j = en j) → f_X10_learn_B54 now bads noes fulls nmost nlearnt x1 x2 x3 x4 = some q → G p l e ({ frames := 6, cells := 0, slots := 0, locals := 146 } : Room) s m args below meth c D n ad A 6 0 0 Q en1 54 [(0, .ref (ad 0)), (1, .int x1), (2, .int x2), (3, .int x3), (4, .int x4)] [] := by
    intro en1 bads noes fulls nmost nlearnt x1 x2 x3 x4 e_tt e_night e_nmostarr H_now hfr h
    unfold f_X10_learn_B54 at h
    refine G_iconst hC (v := 1) (by decide) dX10_learn_54 ?_
    refine G_goto hC 59 dX10_learn_55 (by decide) ?_
    refine G_lv [0, 1, 2, 3, 4] rfl ?_
    exact hB59 _ _ _ _ _ _ _ _ _ _ _ e_tt e_night e_nmostarr H_now hfr h
  have hB25 : ∀ (en1 : Nat → va_E) (bads : Int32) (noes : Int32) (fulls : Int32) (nmost : Nat → Int32) (nlearnt : Int32) (x1 : Int32) (x2 : Int32) (x3 : Int32) (s0 : Int32), en1 0 = .inr (7, [.ref (ad 1), .ref (ad 12), .ref (ad 58), .ref (ad 81), .ref (ad 83), .ref (ad 96), .ref (ad 98), .int keptImages, .long fab, .long fbe, .int bads, .int noes, .int fulls]) → en1 98 = .inr (1, [.ref (ad 99), .int nlearnt]) → en1 99 = .inl (cs 1, 1300, .inl (nmost)) → Hall cs ad en1 1 now → (∀ j, (j < 0 ∨ 1 ≤ j) → (j < 98 ∨ 99 ≤ j) → (j < 99 ∨ 100 ≤ j) → en1 j = en j) → f_X10_learn_B25 now bads noes fulls nmost nlearnt x1 x2 x3 s0 = some q → G p l e ({ frames := 6, cells := 0, slots := 0, locals := 146 } : Room) s m args below meth c D n ad A 6 0 0 Q en1 25 [(0, .ref (ad 0)), (1, .int x1), (2, .int x2), (3, .int x3)] [.int s0] := by
    intro en1 bads noes fulls nmost nlearnt x1 x2 x3 s0 e_tt e_night e_nmostarr H_now hfr h
    unfold f_X10_learn_B25 at h
    refine G_istore hC 4 [(4, .int s0), (0, .ref (ad 0)), (1, .int x1), (2, .int x2), (3, .int x3)] (by decide) rfl dX10_learn_25 ?_
    refine G_iload_n hC 3 4 rfl rfl dX10_learn_27 ?_
    refine G_iconst hC (v := (-1)) (by decide) dX10_learn_28 ?_
    refine G_icmp_eq hC 58 dX10_learn_29 (by decide) (fun c29 => ?_) (fun c29 => ?_)
    · have h := ifp c29 h
      refine G_lv [1, 2, 3, 4, 0] rfl ?_
      exact hB58 _ _ _ _ _ _ _ _ _ _ e_tt e_night e_nmostarr H_now hfr h
    have h := ifn c29 h
    refine G_aload_n hC 0 1 rfl rfl dX10_learn_32 ?_
    refine G_get hC inX10 0 (by omega) (v := .ref (ad 1)) e_tt rfl 0 (by decide) m10 rfl rfl dX10_learn_33 ?_
    refine G_get hC inX1 1 (by omega) (v := .ref (ad (2))) (H_now 0 (by decide)) rfl 0 (by decide) m80 rfl rfl dX10_learn_36 ?_
    refine G_iload_n hC 3 4 rfl rfl dX10_learn_39 ?_
    obtain ⟨q40, h40, h⟩ := bnd h
    refine G_cVi (st := []) hC _ (1 + 1) (by omega) (c_X8_holds (pp := 1 + 1) l (by omega) (H_now 1 (by decide)) h40) (cwV 1 hC.hts gX10_learn_X8_holds rfl rfl rfl (by decide +kernel) ⟨Nat.le_of_ble_eq_true rfl, Nat.le_of_ble_eq_true rfl⟩) (H_now 1 (by decide)) rfl rfl (Nat.le_of_ble_eq_true rfl) (Nat.zero_le _) (Nat.zero_le _) rfl dX10_learn_40 (fun r40 enx hw => ?_)
    obtain ⟨rfl, rfl⟩ := hw
    refine G_if_eq hC 54 dX10_learn_43 (by decide) (fun c43 => ?_) (fun c43 => ?_)
    · have h := ifp c43 h
      refine G_lv [1, 2, 3, 4, 0] rfl ?_
      exact hB54 _ _ _ _ _ _ _ _ _ _ e_tt e_night e_nmostarr H_now hfr h
    have h := ifn c43 h
    refine G_iload_n hC 1 2 rfl rfl dX10_learn_46 ?_
    refine G_iload_n hC 3 4 rfl rfl dX10_learn_47 ?_
    obtain ⟨q48, h48, h⟩ := bnd h
    refine G_cSi (st := []) hC _ (c_X10_isIn  l  h48) (va_cwS 2 hC.hts gX10_learn_X10_isIn rfl rfl rfl (by decide +kernel) ⟨Nat.le_of_ble_eq_true rfl, Nat.le_of_ble_eq_true rfl⟩) rfl (Nat.le_of_ble_eq_true rfl) (Nat.zero_le _) (Nat.zero_le _) rfl dX10_learn_48 (fun r48 enx hw => ?_)
    obtain ⟨rfl, rfl⟩ := hw
    refine G_if_ne hC 58 dX10_learn_51 (by decide) (fun c51 => ?_) (fun c51 => ?_)
    · have h := ifn c51 h
      refine G_lv [1, 2, 3, 4, 0] rfl ?_
      exact hB58 _ _ _ _ _ _ _ _ _ _ e_tt e_night e_nmostarr H_now hfr h
    have h := ifp c51 h
    refine G_lv [1, 2, 3, 4, 0] rfl ?_
    exact hB54 _ _ _ _ _ _ _ _ _ _ e_tt e_night e_nmostarr H_now hfr h
  have hB20 : ∀ (en1 : Nat → va_E) (bads : Int32) (noes : Int32) (fulls : Int32) (nmost : Nat → Int32) (nlearnt : Int32) (x1 : Int32) (x2 : Int32) (x3 : Int32), en1 0 = .inr (7, [.ref (ad 1), .ref (ad 12), .ref (ad 58), .ref (ad 81), .ref (ad 83), .ref (ad 96), .ref (ad 98), .int keptImages, .long fab, .long fbe, .int bads, .int noes, .int fulls]) → en1 98 = .inr (1, [.ref (ad 99), .int nlearnt]) → en1 99 = .inl (cs 1, 1300, .inl (nmost)) → Hall cs ad en1 1 now → (∀ j, (j < 0 ∨ 1 ≤ j) → (j < 98 ∨ 99 ≤ j) → (j < 99 ∨ 100 ≤ j) → en1 j = en j) → f_X10_learn_B20 now bads noes fulls nmost nlearnt x1 x2 x3 = some q → G p l e ({ frames := 6, cells := 0, slots := 0, locals := 146 } : Room) s m args below meth c D n ad A 6 0 0 Q en1 20 [(0, .ref (ad 0)), (1, .int x1), (2, .int x2), (3, .int x3)] [] := by
    intro en1 bads noes fulls nmost nlearnt x1 x2 x3 e_tt e_night e_nmostarr H_now hfr h
    unfold f_X10_learn_B20 at h
    refine G_iconst hC (v := 1) (by decide) dX10_learn_20 ?_
    refine G_goto hC 25 dX10_learn_21 (by decide) ?_
    refine G_lv [0, 1, 2, 3] rfl ?_
    exact hB25 _ _ _ _ _ _ _ _ _ _ e_tt e_night e_nmostarr H_now hfr h
  unfold f_X10_learn at h
  have hfr : ∀ j, (j < 0 ∨ 1 ≤ j) → (j < 98 ∨ 99 ≤ j) → (j < 99 ∨ 100 ≤ j) → en j = en j := fun _ _ _ _ => rfl
  refine G_iload_n hC 1 1 rfl rfl dX10_learn_0 ?_
  refine G_if_lt hC 20 dX10_learn_1 (by decide) (fun c1 => ?_) (fun c1 => ?_)
  · have h := ifp c1 h
    refine G_lv [0, 1, 2, 3] rfl ?_
    exact hB20 _ _ _ _ _ _ _ _ _ e_tt e_night e_nmostarr H_now hfr h
  have h := ifn c1 h
  refine G_iload_n hC 1 1 rfl rfl dX10_learn_4 ?_
  refine G_iconst hC (v := 1) (by decide) dX10_learn_5 ?_
  refine G_aload_n hC 0 0 rfl rfl dX10_learn_6 ?_
  refine G_get hC inX10 0 (by omega) (v := .ref (ad 1)) e_tt rfl 0 (by decide) m10 rfl rfl dX10_learn_7 ?_
  refine G_get hC inX1 1 (by omega) (v := .ref (ad (2))) (H_now 0 (by decide)) rfl 0 (by decide) m80 rfl rfl dX10_learn_10 ?_
  obtain ⟨q13, h13, h⟩ := bnd h
  refine G_cVi (st := [.int (1 : Int32), .int x1]) hC _ (1 + 1) (by omega) (c_X8_size (pp := 1 + 1) l (by omega) (H_now 1 (by decide)) h13) (cwV 0 hC.hts gX10_learn_X8_size rfl rfl rfl (by decide +kernel) ⟨Nat.le_of_ble_eq_true rfl, Nat.le_of_ble_eq_true rfl⟩) (H_now 1 (by decide)) rfl rfl (Nat.le_of_ble_eq_true rfl) (Nat.zero_le _) (Nat.zero_le _) rfl dX10_learn_13 (fun r13 enx hw => ?_)
  obtain ⟨rfl, rfl⟩ := hw
  refine G_ishl hC dX10_learn_16 ?_
  refine G_icmp_lt hC 24 dX10_learn_17 (by decide) (fun c17 => ?_) (fun c17 => ?_)
  · have h := ifp c17 h
    refine G_iconst hC (v := 0) (by decide) dX10_learn_24 ?_
    refine G_lv [0, 1, 2, 3] rfl ?_
    exact hB25 _ _ _ _ _ _ _ _ _ _ e_tt e_night e_nmostarr H_now hfr h
  have h := ifn c17 h
  refine G_lv [0, 1, 2, 3] rfl ?_
  exact hB20 _ _ _ _ _ _ _ _ _ e_tt e_night e_nmostarr H_now hfr h
def f_X10_rests_B20   (bads : Int32) (noes : Int32) (fulls : Int32) : Option (Int32 × Int32 × Int32 × Int32) := Option.bind (f_X10_counted bads noes fulls (-2 : Int32)) (fun q23 => some (q23.1, q23.2.1, q23.2.2.1, q23.2.2.2))
def f_X10_rests (bads : Int32) (noes : Int32) (fulls : Int32) (x1 : Int32) (x2 : Int32) : Option (Int32 × Int32 × Int32 × Int32) := Option.bind (f_X10_within x1 (0 : Int32) (20 : Int32)) (fun q4 => if q4 = 0 then (f_X10_rests_B20 bads noes fulls) else (Option.bind (f_X10_within x2 (0 : Int32) (20 : Int32)) (fun q14 => if q14 = 0 then (f_X10_rests_B20 bads noes fulls) else (Option.bind (f_X0_restBits x1 x2) (fun q29 => some (q29, bads, noes, fulls))))))
set_option maxHeartbeats 4000000 in
set_option maxRecDepth 100000 in
theorem c_X10_rests {D : va_G} {cs : Nat → ClassId} {sa : Nat → Nat} {n : Nat} {ad : Nat → Nat} {A : Nat → Prop} (l : Launch) {en : Nat → va_E}  {keptImages : Int32} {fab : Int64} {fbe : Int64} {bads : Int32} {noes : Int32} {fulls : Int32} {x1 : Int32} {x2 : Int32}  {q : Int32 × Int32 × Int32 × Int32} (hn : 110 ≤ n) (e_tt : en 0 = .inr (7, [.ref (ad 1), .ref (ad 12), .ref (ad 58), .ref (ad 81), .ref (ad 83), .ref (ad 96), .ref (ad 98), .int keptImages, .long fab, .long fbe, .int bads, .int noes, .int fulls])) (h : f_X10_rests bads noes fulls x1 x2 = some q) : Met l yX10_rests wsX10_rests { frames := 2, cells := 0, slots := 0, locals := 49 } (va_Pc [.ref (ad 0), .int x1, .int x2] (Wd D cs sa n ad A en)) (va_Qi (fun r u => q.1 = r ∧ u 0 = .inr (7, [.ref (ad 1), .ref (ad 12), .ref (ad 58), .ref (ad 81), .ref (ad 83), .ref (ad 96), .ref (ad 98), .int keptImages, .long fab, .long fbe, .int q.2.1, .int q.2.2.1, .int q.2.2.2]) ∧ (∀ j, (j < 0 ∨ 1 ≤ j) → u j = en j)) (Wd D cs sa n ad A) A) 0 0 A := by
  refine G_startI cX10_rests 3 [(0, .ref (ad 0)), (1, .int x1), (2, .int x2)] (by decide) rfl (Nat.le_of_ble_eq_true rfl) rfl ?_
  intro p e s m args below meth c Q hC hnm Kr
  have hB20 : ∀ (en1 : Nat → va_E) (bads : Int32) (noes : Int32) (fulls : Int32), en1 0 = .inr (7, [.ref (ad 1), .ref (ad 12), .ref (ad 58), .ref (ad 81), .ref (ad 83), .ref (ad 96), .ref (ad 98), .int keptImages, .long fab, .long fbe, .int bads, .int noes, .int fulls]) → (∀ j, (j < 0 ∨ 1 ≤ j) → en1 j = en j) → f_X10_rests_B20 bads noes fulls = some q → G p l e ({ frames := 2, cells := 0, slots := 0, locals := 49 } : Room) s m args below meth c D n ad A 3 0 0 Q en1 20 [(0, .ref (ad 0))] [] := by
    intro en1 bads noes fulls e_tt hfr h
    unfold f_X10_rests_B20 at h
    refine G_aload_n hC 0 0 rfl rfl dX10_rests_20 ?_
    refine G_bipush hC (v := (-2)) (by decide) dX10_rests_21 ?_
    obtain ⟨q23, h23, h⟩ := bnd h
    refine G_cVi (st := []) hC _ 0 (by omega) (c_X10_counted  l (by omega) e_tt h23) (cwV 1 hC.hts gX10_rests_X10_counted rfl rfl rfl (by decide +kernel) ⟨Nat.le_of_ble_eq_true rfl, Nat.le_of_ble_eq_true rfl⟩) e_tt rfl rfl (Nat.le_of_ble_eq_true rfl) (Nat.zero_le _) (Nat.zero_le _) rfl dX10_rests_23 (fun r23 en2 hw => ?_)
    obtain ⟨rfl, e_tt, fr⟩ := hw
    have hfr : ∀ j, (j < 0 ∨ 1 ≤ j) → en2 j = en j := fun j o0 => (fr j (by omega)).trans (hfr j o0)
    have h := Option.some.inj h
    subst h
    exact Kr _ _ _ _ (nar_i _) ⟨rfl, e_tt, hfr⟩ dX10_rests_26
  unfold f_X10_rests at h
  have hfr : ∀ j, (j < 0 ∨ 1 ≤ j) → en j = en j := fun _ _ => rfl
  refine G_iload_n hC 1 1 rfl rfl dX10_rests_0 ?_
  refine G_iconst hC (v := 0) (by decide) dX10_rests_1 ?_
  refine G_bipush hC (v := 20) (by decide) dX10_rests_2 ?_
  obtain ⟨q4, h4, h⟩ := bnd h
  refine G_cSi (st := []) hC _ (c_X10_within  l  h4) (va_cwS 3 hC.hts gX10_rests_X10_within rfl rfl rfl (by decide +kernel) ⟨Nat.le_of_ble_eq_true rfl, Nat.le_of_ble_eq_true rfl⟩) rfl (Nat.le_of_ble_eq_true rfl) (Nat.zero_le _) (Nat.zero_le _) rfl dX10_rests_4 (fun r4 enx hw => ?_)
  obtain ⟨rfl, rfl⟩ := hw
  refine G_if_eq hC 20 dX10_rests_7 (by decide) (fun c7 => ?_) (fun c7 => ?_)
  · have h := ifp c7 h
    refine G_lv [0] rfl ?_
    exact hB20 _ _ _ _ e_tt hfr h
  have h := ifn c7 h
  refine G_iload_n hC 2 2 rfl rfl dX10_rests_10 ?_
  refine G_iconst hC (v := 0) (by decide) dX10_rests_11 ?_
  refine G_bipush hC (v := 20) (by decide) dX10_rests_12 ?_
  obtain ⟨q14, h14, h⟩ := bnd h
  refine G_cSi (st := []) hC _ (c_X10_within  l  h14) (va_cwS 3 hC.hts gX10_rests_X10_within rfl rfl rfl (by decide +kernel) ⟨Nat.le_of_ble_eq_true rfl, Nat.le_of_ble_eq_true rfl⟩) rfl (Nat.le_of_ble_eq_true rfl) (Nat.zero_le _) (Nat.zero_le _) rfl dX10_rests_14 (fun r14 enx hw => ?_)
  obtain ⟨rfl, rfl⟩ := hw
  refine G_if_ne hC 27 dX10_rests_17 (by decide) (fun c17 => ?_) (fun c17 => ?_)
  · have h := ifn c17 h
    refine G_iload_n hC 1 1 rfl rfl dX10_rests_27 ?_
    refine G_iload_n hC 2 2 rfl rfl dX10_rests_28 ?_
    obtain ⟨q29, h29, h⟩ := bnd h
    refine G_cSi (st := []) hC _ (c_X0_restBits  l  h29) (va_cwS 2 hC.hts gX10_rests_X0_restBits rfl rfl rfl (by decide +kernel) ⟨Nat.le_of_ble_eq_true rfl, Nat.le_of_ble_eq_true rfl⟩) rfl (Nat.le_of_ble_eq_true rfl) (Nat.zero_le _) (Nat.zero_le _) rfl dX10_rests_29 (fun r29 enx hw => ?_)
    obtain ⟨rfl, rfl⟩ := hw
    have h := Option.some.inj h
    subst h
    exact Kr _ _ _ _ (nar_i _) ⟨rfl, e_tt, hfr⟩ dX10_rests_32
  have h := ifp c17 h
  refine G_lv [0] rfl ?_
  exact hB20 _ _ _ _ e_tt hfr h
