def f_X11_keeps_B50 (mw : Nat → Int32)  (x1 : Int32) (x3 : Int32) (s0 : Int32) : Option (Int32) := Option.bind (f_X11_heldNow mw x1) (fun q56 => Option.bind (f_X11_lesser (20 : Int32) ((q56 + x3) + s0)) (fun q64 => some q64))
def f_X11_keeps_B49 (mw : Nat → Int32)  (x1 : Int32) (x3 : Int32) : Option (Int32) := f_X11_keeps_B50 mw x1 x3 (0 : Int32)
def f_X11_keeps_B19 (mw : Nat → Int32)  (x1 : Int32) (x2 : Int32) (s0 : Int32) : Option (Int32) := if x2 ≤ 0 then (f_X11_keeps_B49 mw x1 s0) else (if (25 : Int32) + x1 < 0 ∨ 960 ≤ ((25 : Int32) + x1).toNatClampNeg then none else (if (13 : Int32) + x1 < 0 ∨ 960 ≤ ((13 : Int32) + x1).toNatClampNeg then none else (if mw ((25 : Int32) + x1).toNatClampNeg = mw ((13 : Int32) + x1).toNatClampNeg then (f_X11_keeps_B50 mw x1 s0 (2 : Int32)) else (f_X11_keeps_B49 mw x1 s0))))
def f_X11_keeps (mw : Nat → Int32) (x1 : Int32) (x2 : Int32) : Option (Int32) := if x2 = 0 then (f_X11_keeps_B19 mw x1 x2 (0 : Int32)) else (if ((105 : Int32) + x2) - (1 : Int32) < 0 ∨ 960 ≤ (((105 : Int32) + x2) - (1 : Int32)).toNatClampNeg then none else (f_X11_keeps_B19 mw x1 x2 (mw (((105 : Int32) + x2) - (1 : Int32)).toNatClampNeg)))
set_option maxHeartbeats 4000000 in
set_option maxRecDepth 100000 in
theorem c_X11_keeps {D : va_G} {cs : Nat → ClassId} {sa : Nat → Nat} {n : Nat} {ad : Nat → Nat} {A : Nat → Prop} (l : Launch) {en : Nat → va_E}  {mw : Nat → Int32} {mtexted : Int32} {mundo : Int32} {mabove : Int64} {mbelow : Int64} {mitems : Int32} {mat : Int32} {mfault : Int32} {mtakes : Int32} {mmisses : Int64} {mbest : Int64} {mh : Int64} {x1 : Int32} {x2 : Int32}  {q : Int32} (hn : 110 ≤ n) (e_model : en 100 = .inr (8, [.ref (ad 101), .ref (ad 102), .ref (ad 103), .ref (ad 104), .int mtexted, .int mundo, .long mabove, .long mbelow, .ref (ad 105), .ref (ad 106), .ref (ad 107), .ref (ad 108), .int mitems, .int mat, .int mfault, .int mtakes, .long mmisses, .long mbest, .ref (ad 109), .long mh])) (e_mwarr : en 101 = .inl (cs 1, 960, .inl (mw))) (h : f_X11_keeps mw x1 x2 = some q) : Met l yX11_keeps wsX11_keeps { frames := 2, cells := 0, slots := 0, locals := 45 } (va_Pc [.ref (ad 100), .int x1, .int x2] (Wd D cs sa n ad A en)) (va_Qi (fun r u => q = r ∧ en = u) (Wd D cs sa n ad A) A) 0 0 A := by
  refine G_startI cX11_keeps 5 [(0, .ref (ad 100)), (1, .int x1), (2, .int x2)] (by decide) rfl (Nat.le_of_ble_eq_true rfl) rfl ?_
  intro p e s m args below meth c Q hC hnm Kr
  have inX11 : ∀ w ∈ u_ws RX11 TX11 20, w ∈ wsX11_keeps := by decide +kernel
  have m7 : Cond.fieldLink RX11 7 "TongueTipModel" "w" "[I" ∈ wsX11_keeps := by decide +kernel
  have hB50 : ∀ (x1 : Int32) (x3 : Int32) (s0 : Int32), f_X11_keeps_B50 mw x1 x3 s0 = some q → G p l e ({ frames := 2, cells := 0, slots := 0, locals := 45 } : Room) s m args below meth c D n ad A 5 0 0 Q en 50 [(0, .ref (ad 100)), (1, .int x1), (3, .int x3)] [.int s0] := by
    intro x1 x3 s0 h
    unfold f_X11_keeps_B50 at h
    refine G_istore hC 4 [(4, .int s0), (0, .ref (ad 100)), (1, .int x1), (3, .int x3)] (by decide) rfl dX11_keeps_50 ?_
    refine G_bipush hC (v := 20) (by decide) dX11_keeps_52 ?_
    refine G_aload_n hC 0 1 rfl rfl dX11_keeps_54 ?_
    refine G_iload_n hC 1 2 rfl rfl dX11_keeps_55 ?_
    obtain ⟨q56, h56, h⟩ := bnd h
    refine G_cVi (st := [.int (20 : Int32)]) hC _ 100 (by omega) (c_X11_heldNow  l (by omega) e_model e_mwarr h56) (cwV 1 hC.hts gX11_keeps_X11_heldNow rfl rfl rfl (by decide +kernel) ⟨Nat.le_of_ble_eq_true rfl, Nat.le_of_ble_eq_true rfl⟩) e_model rfl rfl (Nat.le_of_ble_eq_true rfl) (Nat.zero_le _) (Nat.zero_le _) rfl dX11_keeps_56 (fun r56 enx hw => ?_)
    obtain ⟨rfl, rfl⟩ := hw
    refine G_iload_n hC 3 3 rfl rfl dX11_keeps_59 ?_
    refine G_iadd hC dX11_keeps_60 ?_
    refine G_iload hC 4 0 rfl dX11_keeps_61 ?_
    refine G_iadd hC dX11_keeps_63 ?_
    obtain ⟨q64, h64, h⟩ := bnd h
    refine G_cSi (st := []) hC _ (c_X11_lesser  l  h64) (va_cwS 2 hC.hts gX11_keeps_X11_lesser rfl rfl rfl (by decide +kernel) ⟨Nat.le_of_ble_eq_true rfl, Nat.le_of_ble_eq_true rfl⟩) rfl (Nat.le_of_ble_eq_true rfl) (Nat.zero_le _) (Nat.zero_le _) rfl dX11_keeps_64 (fun r64 enx hw => ?_)
    obtain ⟨rfl, rfl⟩ := hw
    have h := Option.some.inj h
    subst h
    exact Kr _ _ _ _ (nar_i _) ⟨rfl, rfl⟩ dX11_keeps_67
  have hB49 : ∀ (x1 : Int32) (x3 : Int32), f_X11_keeps_B49 mw x1 x3 = some q → G p l e ({ frames := 2, cells := 0, slots := 0, locals := 45 } : Room) s m args below meth c D n ad A 5 0 0 Q en 49 [(0, .ref (ad 100)), (1, .int x1), (3, .int x3)] [] := by
    intro x1 x3 h
    unfold f_X11_keeps_B49 at h
    refine G_iconst hC (v := 0) (by decide) dX11_keeps_49 ?_
    refine G_lv [0, 1, 2] rfl ?_
    exact hB50 _ _ _ h
  have hB19 : ∀ (x1 : Int32) (x2 : Int32) (s0 : Int32), f_X11_keeps_B19 mw x1 x2 s0 = some q → G p l e ({ frames := 2, cells := 0, slots := 0, locals := 45 } : Room) s m args below meth c D n ad A 5 0 0 Q en 19 [(0, .ref (ad 100)), (1, .int x1), (2, .int x2)] [.int s0] := by
    intro x1 x2 s0 h
    unfold f_X11_keeps_B19 at h
    refine G_istore_n hC 3 [(3, .int s0), (0, .ref (ad 100)), (1, .int x1), (2, .int x2)] rfl (by decide) rfl dX11_keeps_19 ?_
    refine G_iload_n hC 2 3 rfl rfl dX11_keeps_20 ?_
    refine G_if_le hC 49 dX11_keeps_21 (by decide) (fun c21 => ?_) (fun c21 => ?_)
    · have h := ifp c21 h
      refine G_lv [1, 2, 0] rfl ?_
      exact hB49 _ _ h
    have h := ifn c21 h
    refine G_aload_n hC 0 1 rfl rfl dX11_keeps_24 ?_
    refine G_get hC inX11 100 (by omega) (v := .ref (ad 101)) e_model rfl 0 (by decide) m7 rfl rfl dX11_keeps_25 ?_
    refine G_bipush hC (v := 25) (by decide) dX11_keeps_28 ?_
    refine G_iload_n hC 1 2 rfl rfl dX11_keeps_30 ?_
    refine G_iadd hC dX11_keeps_31 ?_
    obtain ⟨g32, h⟩ := asn h
    refine G_iald hC 101 (by omega) e_mwarr g32 dX11_keeps_32 ?_
    refine G_aload_n hC 0 1 rfl rfl dX11_keeps_33 ?_
    refine G_get hC inX11 100 (by omega) (v := .ref (ad 101)) e_model rfl 0 (by decide) m7 rfl rfl dX11_keeps_34 ?_
    refine G_bipush hC (v := 13) (by decide) dX11_keeps_37 ?_
    refine G_iload_n hC 1 2 rfl rfl dX11_keeps_39 ?_
    refine G_iadd hC dX11_keeps_40 ?_
    obtain ⟨g41, h⟩ := asn h
    refine G_iald hC 101 (by omega) e_mwarr g41 dX11_keeps_41 ?_
    refine G_icmp_ne hC 49 dX11_keeps_42 (by decide) (fun c42 => ?_) (fun c42 => ?_)
    · have h := ifn c42 h
      refine G_lv [1, 2, 0] rfl ?_
      exact hB49 _ _ h
    have h := ifp c42 h
    refine G_iconst hC (v := 2) (by decide) dX11_keeps_45 ?_
    refine G_goto hC 50 dX11_keeps_46 (by decide) ?_
    refine G_lv [1, 2, 0] rfl ?_
    exact hB50 _ _ _ h
  unfold f_X11_keeps at h
  refine G_iload_n hC 2 2 rfl rfl dX11_keeps_0 ?_
  refine G_if_ne hC 8 dX11_keeps_1 (by decide) (fun c1 => ?_) (fun c1 => ?_)
  · have h := ifn c1 h
    refine G_aload_n hC 0 0 rfl rfl dX11_keeps_8 ?_
    refine G_get hC inX11 100 (by omega) (v := .ref (ad 101)) e_model rfl 0 (by decide) m7 rfl rfl dX11_keeps_9 ?_
    refine G_bipush hC (v := 105) (by decide) dX11_keeps_12 ?_
    refine G_iload_n hC 2 2 rfl rfl dX11_keeps_14 ?_
    refine G_iadd hC dX11_keeps_15 ?_
    refine G_iconst hC (v := 1) (by decide) dX11_keeps_16 ?_
    refine G_isub hC dX11_keeps_17 ?_
    obtain ⟨g18, h⟩ := asn h
    refine G_iald hC 101 (by omega) e_mwarr g18 dX11_keeps_18 ?_
    refine G_lv [0, 1, 2] rfl ?_
    exact hB19 _ _ _ h
  have h := ifp c1 h
  refine G_iconst hC (v := 0) (by decide) dX11_keeps_4 ?_
  refine G_goto hC 19 dX11_keeps_5 (by decide) ?_
  refine G_lv [0, 1, 2] rfl ?_
  exact hB19 _ _ _ h
def f_X11_findNight_B156 (mw : Nat → Int32) (mnames : Nat → Int64) (rL28 : (Nat → Int32) → Int32 → Int32 → Option ((Nat → Int32))) (rL34 : (Nat → Int32) → Int32 → Int32 → Int32 → Option ((Nat → Int32))) (mleft : Nat → Int32) (x1 : Int32) (x2 : Int32) (x3 : Int32) (x4 : Int32) : Option ((Nat → Int32)) := if ((100 : Int32) * x2) + x3 < 0 ∨ 1300 ≤ (((100 : Int32) * x2) + x3).toNatClampNeg then none else (rL34 (upd mleft (((100 : Int32) * x2) + x3).toNatClampNeg x4) x1 x2 (x3 + (1 : Int32)))
def f_X11_findNight_B148 (mw : Nat → Int32) (mnames : Nat → Int64) (rL28 : (Nat → Int32) → Int32 → Int32 → Option ((Nat → Int32))) (rL34 : (Nat → Int32) → Int32 → Int32 → Int32 → Option ((Nat → Int32))) (rL70 : (Nat → Int32) → Int32 → Int32 → Int32 → Int32 → Int32 → Option ((Nat → Int32))) (mleft : Nat → Int32) (x1 : Int32) (x2 : Int32) (x3 : Int32) (x5 : Int32) (s0 : Int32) : Option ((Nat → Int32)) := rL70 mleft x1 x2 x3 s0 (x5 + (1 : Int32))
def f_X11_findNight_B132 (mw : Nat → Int32) (mnames : Nat → Int64) (rL28 : (Nat → Int32) → Int32 → Int32 → Option ((Nat → Int32))) (rL34 : (Nat → Int32) → Int32 → Int32 → Int32 → Option ((Nat → Int32))) (rL70 : (Nat → Int32) → Int32 → Int32 → Int32 → Int32 → Int32 → Option ((Nat → Int32))) (mleft : Nat → Int32) (x1 : Int32) (x2 : Int32) (x3 : Int32) (x4 : Int32) (x5 : Int32) (s0 : Int32) : Option ((Nat → Int32)) := if s0 ≤ x4 then (f_X11_findNight_B148 mw mnames rL28 rL34 rL70 mleft x1 x2 x3 x5 x4) else (f_X11_findNight_B148 mw mnames rL28 rL34 rL70 mleft x1 x2 x3 x5 s0)
def f_X11_findNight_L70 (mw : Nat → Int32) (mnames : Nat → Int64) (rL28 : (Nat → Int32) → Int32 → Int32 → Option ((Nat → Int32))) (rL34 : (Nat → Int32) → Int32 → Int32 → Int32 → Option ((Nat → Int32))) : Nat → (Nat → Int32) → Int32 → Int32 → Int32 → Int32 → Int32 → Option ((Nat → Int32))
  | 0, _, _, _, _, _, _ => none
  | fu + 1, mleft, x1, x2, x3, x4, x5 => Option.bind (f_X11_holds x1 x2) (fun q72 => if q72 = 0 then (f_X11_findNight_B156 mw mnames rL28 rL34 mleft x1 x2 x3 x4) else (if (6 : Int32) ≤ x5 then (f_X11_findNight_B156 mw mnames rL28 rL34 mleft x1 x2 x3 x4) else (if x2 < 0 ∨ 96 ≤ x2.toNatClampNeg then none else (Option.bind (f_X11_lettersOf (mnames x2.toNatClampNeg)) (fun q94 => if 0 ≤ x3 - (x5 * q94) then (if ((100 : Int32) * (x2 + (1 : Int32))) + (x3 - (x5 * q94)) < 0 ∨ 1300 ≤ (((100 : Int32) * (x2 + (1 : Int32))) + (x3 - (x5 * q94))).toNatClampNeg then none else (Option.bind (f_X11_keeps mw x2 x5) (fun q128 => f_X11_findNight_B132 mw mnames rL28 rL34 (f_X11_findNight_L70 mw mnames rL28 rL34 fu) mleft x1 x2 x3 x4 x5 ((mleft (((100 : Int32) * (x2 + (1 : Int32))) + (x3 - (x5 * q94))).toNatClampNeg) + q128)))) else (f_X11_findNight_B132 mw mnames rL28 rL34 (f_X11_findNight_L70 mw mnames rL28 rL34 fu) mleft x1 x2 x3 x4 x5 (0 : Int32)))))))
def f_X11_findNight_B65 (mw : Nat → Int32) (mnames : Nat → Int64) (rL28 : (Nat → Int32) → Int32 → Int32 → Option ((Nat → Int32))) (rL34 : (Nat → Int32) → Int32 → Int32 → Int32 → Option ((Nat → Int32))) (mleft : Nat → Int32) (x1 : Int32) (x2 : Int32) (x3 : Int32) (s0 : Int32) : Option ((Nat → Int32)) := f_X11_findNight_L70 mw mnames rL28 rL34 FU mleft x1 x2 x3 s0 (0 : Int32)
def f_X11_findNight_L34 (mw : Nat → Int32) (mnames : Nat → Int64) (rL28 : (Nat → Int32) → Int32 → Int32 → Option ((Nat → Int32))) : Nat → (Nat → Int32) → Int32 → Int32 → Int32 → Option ((Nat → Int32))
  | 0, _, _, _, _ => none
  | fu + 1, mleft, x1, x2, x3 => if (100 : Int32) ≤ x3 then (rL28 mleft x1 (x2 + (-1 : Int32))) else (Option.bind (f_X11_holds x1 x2) (fun q42 => if q42 = 0 then (if ((100 : Int32) * (x2 + (1 : Int32))) + x3 < 0 ∨ 1300 ≤ (((100 : Int32) * (x2 + (1 : Int32))) + x3).toNatClampNeg then none else (f_X11_findNight_B65 mw mnames rL28 (f_X11_findNight_L34 mw mnames rL28 fu) mleft x1 x2 x3 (mleft (((100 : Int32) * (x2 + (1 : Int32))) + x3).toNatClampNeg))) else (f_X11_findNight_B65 mw mnames rL28 (f_X11_findNight_L34 mw mnames rL28 fu) mleft x1 x2 x3 (0 : Int32))))
def f_X11_findNight_L28 (mw : Nat → Int32) (mnames : Nat → Int64)  : Nat → (Nat → Int32) → Int32 → Int32 → Option ((Nat → Int32))
  | 0, _, _, _ => none
  | fu + 1, mleft, x1, x2 => if x2 < 0 then (some mleft) else (f_X11_findNight_L34 mw mnames (f_X11_findNight_L28 mw mnames fu) FU mleft x1 x2 (0 : Int32))
def f_X11_findNight_L2 (mw : Nat → Int32) (mnames : Nat → Int64)  : Nat → (Nat → Int32) → Int32 → Int32 → Option ((Nat → Int32))
  | 0, _, _, _ => none
  | fu + 1, mleft, x1, x2 => if (100 : Int32) ≤ x2 then (f_X11_findNight_L28 mw mnames FU mleft x1 (11 : Int32)) else (if (1200 : Int32) + x2 < 0 ∨ 1300 ≤ ((1200 : Int32) + x2).toNatClampNeg then none else (f_X11_findNight_L2 mw mnames fu (upd mleft ((1200 : Int32) + x2).toNatClampNeg (0 : Int32)) x1 (x2 + (1 : Int32))))
def f_X11_findNight (mw : Nat → Int32) (mnames : Nat → Int64) (mleft : Nat → Int32) (x1 : Int32) : Option ((Nat → Int32)) := f_X11_findNight_L2 mw mnames FU mleft x1 (0 : Int32)
set_option maxHeartbeats 4000000 in
set_option maxRecDepth 100000 in
theorem c_X11_findNight {D : va_G} {cs : Nat → ClassId} {sa : Nat → Nat} {n : Nat} {ad : Nat → Nat} {A : Nat → Prop} (l : Launch) {en : Nat → va_E}  {mw : Nat → Int32} {mnames : Nat → Int64} {mtexted : Int32} {mundo : Int32} {mabove : Int64} {mbelow : Int64} {mitems : Int32} {mat : Int32} {mfault : Int32} {mtakes : Int32} {mmisses : Int64} {mbest : Int64} {mleft : Nat → Int32} {mh : Int64} {x1 : Int32}  {q : (Nat → Int32)} (hn : 110 ≤ n) (e_model : en 100 = .inr (8, [.ref (ad 101), .ref (ad 102), .ref (ad 103), .ref (ad 104), .int mtexted, .int mundo, .long mabove, .long mbelow, .ref (ad 105), .ref (ad 106), .ref (ad 107), .ref (ad 108), .int mitems, .int mat, .int mfault, .int mtakes, .long mmisses, .long mbest, .ref (ad 109), .long mh])) (e_mwarr : en 101 = .inl (cs 1, 960, .inl (mw))) (e_mnamesarr : en 102 = .inl (cs 2, 96, .inr (.inl (mnames)))) (e_mleftarr : en 109 = .inl (cs 1, 1300, .inl (mleft))) (h : f_X11_findNight mw mnames mleft x1 = some q) : Met l yX11_findNight wsX11_findNight { frames := 3, cells := 0, slots := 0, locals := 69 } (va_Pc [.ref (ad 100), .int x1] (Wd D cs sa n ad A en)) (va_Qv (fun u => u 109 = .inl (cs 1, 1300, .inl (q)) ∧ (∀ j, (j < 109 ∨ 110 ≤ j) → u j = en j)) (Wd D cs sa n ad A) A) 0 0 A := by
  refine G_startV cX11_findNight 8 [(0, .ref (ad 100)), (1, .int x1)] (by decide) rfl (Nat.le_of_ble_eq_true rfl) rfl ?_
  intro p e s m args below meth c Q hC hnm Kr
  have inX11 : ∀ w ∈ u_ws RX11 TX11 20, w ∈ wsX11_findNight := by decide +kernel
  have m13 : Cond.fieldLink RX11 13 "TongueTipModel" "names" "[J" ∈ wsX11_findNight := by decide +kernel
  have m40 : Cond.fieldLink RX11 40 "TongueTipModel" "left" "[I" ∈ wsX11_findNight := by decide +kernel
  have hL28 : ∀ (fu28 : Nat), ∀ (en1 : Nat → va_E) (mleft : Nat → Int32) (x1 : Int32) (x2 : Int32), en1 100 = .inr (8, [.ref (ad 101), .ref (ad 102), .ref (ad 103), .ref (ad 104), .int mtexted, .int mundo, .long mabove, .long mbelow, .ref (ad 105), .ref (ad 106), .ref (ad 107), .ref (ad 108), .int mitems, .int mat, .int mfault, .int mtakes, .long mmisses, .long mbest, .ref (ad 109), .long mh]) → en1 101 = .inl (cs 1, 960, .inl (mw)) → en1 102 = .inl (cs 2, 96, .inr (.inl (mnames))) → en1 109 = .inl (cs 1, 1300, .inl (mleft)) → (∀ j, (j < 109 ∨ 110 ≤ j) → en1 j = en j) → f_X11_findNight_L28 mw mnames fu28 mleft x1 x2 = some q → G p l e ({ frames := 3, cells := 0, slots := 0, locals := 69 } : Room) s m args below meth c D n ad A 8 0 0 Q en1 28 [(0, .ref (ad 100)), (1, .int x1), (2, .int x2)] [] := by
    intro fu28
    induction fu28 with
    | zero =>
      intro en1 mleft x1 x2 e_model e_mwarr e_mnamesarr e_mleftarr hfr h
      rw [f_X11_findNight_L28] at h
      cases h
    | succ fu28 ih28 =>
      have hL34 : ∀ (fu34 : Nat), ∀ (en1 : Nat → va_E) (mleft : Nat → Int32) (x1 : Int32) (x2 : Int32) (x3 : Int32), en1 100 = .inr (8, [.ref (ad 101), .ref (ad 102), .ref (ad 103), .ref (ad 104), .int mtexted, .int mundo, .long mabove, .long mbelow, .ref (ad 105), .ref (ad 106), .ref (ad 107), .ref (ad 108), .int mitems, .int mat, .int mfault, .int mtakes, .long mmisses, .long mbest, .ref (ad 109), .long mh]) → en1 101 = .inl (cs 1, 960, .inl (mw)) → en1 102 = .inl (cs 2, 96, .inr (.inl (mnames))) → en1 109 = .inl (cs 1, 1300, .inl (mleft)) → (∀ j, (j < 109 ∨ 110 ≤ j) → en1 j = en j) → f_X11_findNight_L34 mw mnames (f_X11_findNight_L28 mw mnames fu28) fu34 mleft x1 x2 x3 = some q → G p l e ({ frames := 3, cells := 0, slots := 0, locals := 69 } : Room) s m args below meth c D n ad A 8 0 0 Q en1 34 [(0, .ref (ad 100)), (1, .int x1), (2, .int x2), (3, .int x3)] [] := by
        intro fu34
        induction fu34 with
        | zero =>
          intro en1 mleft x1 x2 x3 e_model e_mwarr e_mnamesarr e_mleftarr hfr h
          rw [f_X11_findNight_L34] at h
          cases h
        | succ fu34 ih34 =>
          have hB156 : ∀ (en1 : Nat → va_E) (mleft : Nat → Int32) (x1 : Int32) (x2 : Int32) (x3 : Int32) (x4 : Int32), en1 100 = .inr (8, [.ref (ad 101), .ref (ad 102), .ref (ad 103), .ref (ad 104), .int mtexted, .int mundo, .long mabove, .long mbelow, .ref (ad 105), .ref (ad 106), .ref (ad 107), .ref (ad 108), .int mitems, .int mat, .int mfault, .int mtakes, .long mmisses, .long mbest, .ref (ad 109), .long mh]) → en1 101 = .inl (cs 1, 960, .inl (mw)) → en1 102 = .inl (cs 2, 96, .inr (.inl (mnames))) → en1 109 = .inl (cs 1, 1300, .inl (mleft)) → (∀ j, (j < 109 ∨ 110 ≤ j) → en1 j = en j) → f_X11_findNight_B156 mw mnames (f_X11_findNight_L28 mw mnames fu28) (f_X11_findNight_L34 mw mnames (f_X11_findNight_L28 mw mnames fu28) fu34) mleft x1 x2 x3 x4 = some q → G p l e ({ frames := 3, cells := 0, slots := 0, locals := 69 } : Room) s m args below meth c D n ad A 8 0 0 Q en1 156 [(0, .ref (ad 100)), (1, .int x1), (2, .int x2), (3, .int x3), (4, .int x4)] [] := by
            intro en1 mleft x1 x2 x3 x4 e_model e_mwarr e_mnamesarr e_mleftarr hfr h
            unfold f_X11_findNight_B156 at h
            refine G_aload_n hC 0 0 rfl rfl dX11_findNight_156 ?_
            refine G_get hC inX11 100 (by omega) (v := .ref (ad 109)) e_model rfl 18 (by decide) m40 rfl rfl dX11_findNight_157 ?_
            refine G_bipush hC (v := 100) (by decide) dX11_findNight_160 ?_
            refine G_iload_n hC 2 2 rfl rfl dX11_findNight_162 ?_
            refine G_imul hC dX11_findNight_163 ?_
            refine G_iload_n hC 3 3 rfl rfl dX11_findNight_164 ?_
            refine G_iadd hC dX11_findNight_165 ?_
            refine G_iload hC 4 4 rfl dX11_findNight_166 ?_
            obtain ⟨g168, h⟩ := asn h
            refine G_iast hC 109 (by omega) e_mleftarr g168 dX11_findNight_168 (fun en2 e_mleftarr fr => ?_)
            have e_mleftarr : en2 109 = .inl (cs 1, 1300, .inl (upd mleft (((100 : Int32) * x2) + x3).toNatClampNeg x4)) := e_mleftarr
            have e_model := (fr 100 (by omega)).trans e_model
            have e_mwarr := (fr 101 (by omega)).trans e_mwarr
            have e_mnamesarr := (fr 102 (by omega)).trans e_mnamesarr
            have hfr : ∀ j, (j < 109 ∨ 110 ≤ j) → en2 j = en j := fun j o0 => (fr j (by omega)).trans (hfr j o0)
            refine G_iinc hC 3 3 [(3, .int (x3 + (1 : Int32))), (0, .ref (ad 100)), (1, .int x1), (2, .int x2), (4, .int x4)] rfl rfl (by decide) rfl dX11_findNight_169 ?_
            refine G_goto hC 34 dX11_findNight_172 (by decide) ?_
            refine G_lv [1, 2, 3, 0] rfl ?_
            exact ih34 _ _ _ _ _ e_model e_mwarr e_mnamesarr e_mleftarr hfr h
          have hL70 : ∀ (fu70 : Nat), ∀ (en1 : Nat → va_E) (mleft : Nat → Int32) (x1 : Int32) (x2 : Int32) (x3 : Int32) (x4 : Int32) (x5 : Int32), en1 100 = .inr (8, [.ref (ad 101), .ref (ad 102), .ref (ad 103), .ref (ad 104), .int mtexted, .int mundo, .long mabove, .long mbelow, .ref (ad 105), .ref (ad 106), .ref (ad 107), .ref (ad 108), .int mitems, .int mat, .int mfault, .int mtakes, .long mmisses, .long mbest, .ref (ad 109), .long mh]) → en1 101 = .inl (cs 1, 960, .inl (mw)) → en1 102 = .inl (cs 2, 96, .inr (.inl (mnames))) → en1 109 = .inl (cs 1, 1300, .inl (mleft)) → (∀ j, (j < 109 ∨ 110 ≤ j) → en1 j = en j) → f_X11_findNight_L70 mw mnames (f_X11_findNight_L28 mw mnames fu28) (f_X11_findNight_L34 mw mnames (f_X11_findNight_L28 mw mnames fu28) fu34) fu70 mleft x1 x2 x3 x4 x5 = some q → G p l e ({ frames := 3, cells := 0, slots := 0, locals := 69 } : Room) s m args below meth c D n ad A 8 0 0 Q en1 70 [(0, .ref (ad 100)), (1, .int x1), (2, .int x2), (3, .int x3), (4, .int x4), (5, .int x5)] [] := by
            intro fu70
            induction fu70 with
            | zero =>
              intro en1 mleft x1 x2 x3 x4 x5 e_model e_mwarr e_mnamesarr e_mleftarr hfr h
              rw [f_X11_findNight_L70] at h
              cases h
            | succ fu70 ih70 =>
              have hB148 : ∀ (en1 : Nat → va_E) (mleft : Nat → Int32) (x1 : Int32) (x2 : Int32) (x3 : Int32) (x5 : Int32) (s0 : Int32), en1 100 = .inr (8, [.ref (ad 101), .ref (ad 102), .ref (ad 103), .ref (ad 104), .int mtexted, .int mundo, .long mabove, .long mbelow, .ref (ad 105), .ref (ad 106), .ref (ad 107), .ref (ad 108), .int mitems, .int mat, .int mfault, .int mtakes, .long mmisses, .long mbest, .ref (ad 109), .long mh]) → en1 101 = .inl (cs 1, 960, .inl (mw)) → en1 102 = .inl (cs 2, 96, .inr (.inl (mnames))) → en1 109 = .inl (cs 1, 1300, .inl (mleft)) → (∀ j, (j < 109 ∨ 110 ≤ j) → en1 j = en j) → f_X11_findNight_B148 mw mnames (f_X11_findNight_L28 mw mnames fu28) (f_X11_findNight_L34 mw mnames (f_X11_findNight_L28 mw mnames fu28) fu34) (f_X11_findNight_L70 mw mnames (f_X11_findNight_L28 mw mnames fu28) (f_X11_findNight_L34 mw mnames (f_X11_findNight_L28 mw mnames fu28) fu34) fu70) mleft x1 x2 x3 x5 s0 = some q → G p l e ({ frames := 3, cells := 0, slots := 0, locals := 69 } : Room) s m args below meth c D n ad A 8 0 0 Q en1 148 [(0, .ref (ad 100)), (1, .int x1), (2, .int x2), (3, .int x3), (5, .int x5)] [.int s0] := by
                intro en1 mleft x1 x2 x3 x5 s0 e_model e_mwarr e_mnamesarr e_mleftarr hfr h
                unfold f_X11_findNight_B148 at h
                refine G_istore hC 4 [(4, .int s0), (0, .ref (ad 100)), (1, .int x1), (2, .int x2), (3, .int x3), (5, .int x5)] (by decide) rfl dX11_findNight_148 ?_
                refine G_iinc hC 5 5 [(5, .int (x5 + (1 : Int32))), (4, .int s0), (0, .ref (ad 100)), (1, .int x1), (2, .int x2), (3, .int x3)] rfl rfl (by decide) rfl dX11_findNight_150 ?_
                refine G_goto hC 70 dX11_findNight_153 (by decide) ?_
                refine G_lv [2, 3, 4, 5, 1, 0] rfl ?_
                exact ih70 _ _ _ _ _ _ _ e_model e_mwarr e_mnamesarr e_mleftarr hfr h
              have hB132 : ∀ (en1 : Nat → va_E) (mleft : Nat → Int32) (x1 : Int32) (x2 : Int32) (x3 : Int32) (x4 : Int32) (x5 : Int32) (s0 : Int32), en1 100 = .inr (8, [.ref (ad 101), .ref (ad 102), .ref (ad 103), .ref (ad 104), .int mtexted, .int mundo, .long mabove, .long mbelow, .ref (ad 105), .ref (ad 106), .ref (ad 107), .ref (ad 108), .int mitems, .int mat, .int mfault, .int mtakes, .long mmisses, .long mbest, .ref (ad 109), .long mh]) → en1 101 = .inl (cs 1, 960, .inl (mw)) → en1 102 = .inl (cs 2, 96, .inr (.inl (mnames))) → en1 109 = .inl (cs 1, 1300, .inl (mleft)) → (∀ j, (j < 109 ∨ 110 ≤ j) → en1 j = en j) → f_X11_findNight_B132 mw mnames (f_X11_findNight_L28 mw mnames fu28) (f_X11_findNight_L34 mw mnames (f_X11_findNight_L28 mw mnames fu28) fu34) (f_X11_findNight_L70 mw mnames (f_X11_findNight_L28 mw mnames fu28) (f_X11_findNight_L34 mw mnames (f_X11_findNight_L28 mw mnames fu28) fu34) fu70) mleft x1 x2 x3 x4 x5 s0 = some q → G p l e ({ frames := 3, cells := 0, slots := 0, locals := 69 } : Room) s m args below meth c D n ad A 8 0 0 Q en1 132 [(0, .ref (ad 100)), (1, .int x1), (2, .int x2), (3, .int x3), (4, .int x4), (5, .int x5)] [.int s0] := by
                intro en1 mleft x1 x2 x3 x4 x5 s0 e_model e_mwarr e_mnamesarr e_mleftarr hfr h
                unfold f_X11_findNight_B132 at h
                refine G_istore hC 7 [(7, .int s0), (0, .ref (ad 100)), (1, .int x1), (2, .int x2), (3, .int x3), (4, .int x4), (5, .int x5)] (by decide) rfl dX11_findNight_132 ?_
                refine G_iload hC 7 0 rfl dX11_findNight_134 ?_
                refine G_iload hC 4 5 rfl dX11_findNight_136 ?_
                refine G_icmp_le hC 146 dX11_findNight_138 (by decide) (fun c138 => ?_) (fun c138 => ?_)
                · have h := ifp c138 h
                  refine G_iload hC 4 5 rfl dX11_findNight_146 ?_
                  refine G_lv [1, 2, 3, 4, 6] rfl ?_
                  exact hB148 _ _ _ _ _ _ _ e_model e_mwarr e_mnamesarr e_mleftarr hfr h
                have h := ifn c138 h
                refine G_iload hC 7 0 rfl dX11_findNight_141 ?_
                refine G_goto hC 148 dX11_findNight_143 (by decide) ?_
                refine G_lv [1, 2, 3, 4, 6] rfl ?_
                exact hB148 _ _ _ _ _ _ _ e_model e_mwarr e_mnamesarr e_mleftarr hfr h
              intro en1 mleft x1 x2 x3 x4 x5 e_model e_mwarr e_mnamesarr e_mleftarr hfr h
              rw [f_X11_findNight_L70] at h
              refine G_iload_n hC 1 1 rfl rfl dX11_findNight_70 ?_
              refine G_iload_n hC 2 2 rfl rfl dX11_findNight_71 ?_
              obtain ⟨q72, h72, h⟩ := bnd h
              refine G_cSi (st := []) hC _ (c_X11_holds  l  h72) (va_cwS 2 hC.hts gX11_findNight_X11_holds rfl rfl rfl (by decide +kernel) ⟨Nat.le_of_ble_eq_true rfl, Nat.le_of_ble_eq_true rfl⟩) rfl (Nat.le_of_ble_eq_true rfl) (Nat.zero_le _) (Nat.zero_le _) rfl dX11_findNight_72 (fun r72 enx hw => ?_)
              obtain ⟨rfl, rfl⟩ := hw
              refine G_if_eq hC 156 dX11_findNight_75 (by decide) (fun c75 => ?_) (fun c75 => ?_)
              · have h := ifp c75 h
                refine G_lv [0, 1, 2, 3, 4] rfl ?_
                exact hB156 _ _ _ _ _ _ e_model e_mwarr e_mnamesarr e_mleftarr hfr h
              have h := ifn c75 h
              refine G_iload hC 5 5 rfl dX11_findNight_78 ?_
              refine G_bipush hC (v := 6) (by decide) dX11_findNight_80 ?_
              refine G_icmp_ge hC 156 dX11_findNight_82 (by decide) (fun c82 => ?_) (fun c82 => ?_)
              · have h := ifp c82 h
                refine G_lv [0, 1, 2, 3, 4] rfl ?_
                exact hB156 _ _ _ _ _ _ e_model e_mwarr e_mnamesarr e_mleftarr hfr h
              have h := ifn c82 h
              refine G_iload_n hC 3 3 rfl rfl dX11_findNight_85 ?_
              refine G_iload hC 5 5 rfl dX11_findNight_86 ?_
              refine G_aload_n hC 0 0 rfl rfl dX11_findNight_88 ?_
              refine G_get hC inX11 100 (by omega) (v := .ref (ad 102)) e_model rfl 1 (by decide) m13 rfl rfl dX11_findNight_89 ?_
              refine G_iload_n hC 2 2 rfl rfl dX11_findNight_92 ?_
              obtain ⟨g93, h⟩ := asn h
              refine G_lald hC 102 (by omega) e_mnamesarr g93 dX11_findNight_93 ?_
              obtain ⟨q94, h94, h⟩ := bnd h
              refine G_cSi (st := [.int x5, .int x3]) hC _ (c_X11_lettersOf  l  h94) (va_cwS 1 hC.hts gX11_findNight_X11_lettersOf rfl rfl rfl (by decide +kernel) ⟨Nat.le_of_ble_eq_true rfl, Nat.le_of_ble_eq_true rfl⟩) rfl (Nat.le_of_ble_eq_true rfl) (Nat.zero_le _) (Nat.zero_le _) rfl dX11_findNight_94 (fun r94 enx hw => ?_)
              obtain ⟨rfl, rfl⟩ := hw
              refine G_imul hC dX11_findNight_97 ?_
              refine G_isub hC dX11_findNight_98 ?_
              refine G_istore hC 6 [(6, .int (x3 - (x5 * q94))), (0, .ref (ad 100)), (1, .int x1), (2, .int x2), (3, .int x3), (4, .int x4), (5, .int x5)] (by decide) rfl dX11_findNight_99 ?_
              refine G_iload hC 6 0 rfl dX11_findNight_101 ?_
              refine G_if_ge hC 110 dX11_findNight_103 (by decide) (fun c103 => ?_) (fun c103 => ?_)
              · have h := ifp c103 h
                refine G_aload_n hC 0 1 rfl rfl dX11_findNight_110 ?_
                refine G_get hC inX11 100 (by omega) (v := .ref (ad 109)) e_model rfl 18 (by decide) m40 rfl rfl dX11_findNight_111 ?_
                refine G_bipush hC (v := 100) (by decide) dX11_findNight_114 ?_
                refine G_iload_n hC 2 3 rfl rfl dX11_findNight_116 ?_
                refine G_iconst hC (v := 1) (by decide) dX11_findNight_117 ?_
                refine G_iadd hC dX11_findNight_118 ?_
                refine G_imul hC dX11_findNight_119 ?_
                refine G_iload hC 6 0 rfl dX11_findNight_120 ?_
                refine G_iadd hC dX11_findNight_122 ?_
                obtain ⟨g123, h⟩ := asn h
                refine G_iald hC 109 (by omega) e_mleftarr g123 dX11_findNight_123 ?_
                refine G_aload_n hC 0 1 rfl rfl dX11_findNight_124 ?_
                refine G_iload_n hC 2 3 rfl rfl dX11_findNight_125 ?_
                refine G_iload hC 5 6 rfl dX11_findNight_126 ?_
                obtain ⟨q128, h128, h⟩ := bnd h
                refine G_cVi (st := [.int (mleft (((100 : Int32) * (x2 + (1 : Int32))) + (x3 - (x5 * q94))).toNatClampNeg)]) hC _ 100 (by omega) (c_X11_keeps  l (by omega) e_model e_mwarr h128) (cwV 2 hC.hts gX11_findNight_X11_keeps rfl rfl rfl (by decide +kernel) ⟨Nat.le_of_ble_eq_true rfl, Nat.le_of_ble_eq_true rfl⟩) e_model rfl rfl (Nat.le_of_ble_eq_true rfl) (Nat.zero_le _) (Nat.zero_le _) rfl dX11_findNight_128 (fun r128 enx hw => ?_)
                obtain ⟨rfl, rfl⟩ := hw
                refine G_iadd hC dX11_findNight_131 ?_
                refine G_lv [1, 2, 3, 4, 5, 6] rfl ?_
                exact hB132 _ _ _ _ _ _ _ _ e_model e_mwarr e_mnamesarr e_mleftarr hfr h
              have h := ifn c103 h
              refine G_iconst hC (v := 0) (by decide) dX11_findNight_106 ?_
              refine G_goto hC 132 dX11_findNight_107 (by decide) ?_
              refine G_lv [1, 2, 3, 4, 5, 6] rfl ?_
              exact hB132 _ _ _ _ _ _ _ _ e_model e_mwarr e_mnamesarr e_mleftarr hfr h
          have hB65 : ∀ (en1 : Nat → va_E) (mleft : Nat → Int32) (x1 : Int32) (x2 : Int32) (x3 : Int32) (s0 : Int32), en1 100 = .inr (8, [.ref (ad 101), .ref (ad 102), .ref (ad 103), .ref (ad 104), .int mtexted, .int mundo, .long mabove, .long mbelow, .ref (ad 105), .ref (ad 106), .ref (ad 107), .ref (ad 108), .int mitems, .int mat, .int mfault, .int mtakes, .long mmisses, .long mbest, .ref (ad 109), .long mh]) → en1 101 = .inl (cs 1, 960, .inl (mw)) → en1 102 = .inl (cs 2, 96, .inr (.inl (mnames))) → en1 109 = .inl (cs 1, 1300, .inl (mleft)) → (∀ j, (j < 109 ∨ 110 ≤ j) → en1 j = en j) → f_X11_findNight_B65 mw mnames (f_X11_findNight_L28 mw mnames fu28) (f_X11_findNight_L34 mw mnames (f_X11_findNight_L28 mw mnames fu28) fu34) mleft x1 x2 x3 s0 = some q → G p l e ({ frames := 3, cells := 0, slots := 0, locals := 69 } : Room) s m args below meth c D n ad A 8 0 0 Q en1 65 [(0, .ref (ad 100)), (1, .int x1), (2, .int x2), (3, .int x3)] [.int s0] := by
            intro en1 mleft x1 x2 x3 s0 e_model e_mwarr e_mnamesarr e_mleftarr hfr h
            unfold f_X11_findNight_B65 at h
            refine G_istore hC 4 [(4, .int s0), (0, .ref (ad 100)), (1, .int x1), (2, .int x2), (3, .int x3)] (by decide) rfl dX11_findNight_65 ?_
            refine G_iconst hC (v := 0) (by decide) dX11_findNight_67 ?_
            refine G_istore hC 5 [(5, .int (0 : Int32)), (4, .int s0), (0, .ref (ad 100)), (1, .int x1), (2, .int x2), (3, .int x3)] (by decide) rfl dX11_findNight_68 ?_
            refine G_lv [2, 3, 4, 5, 1, 0] rfl ?_
            exact hL70 FU _ _ _ _ _ _ _ e_model e_mwarr e_mnamesarr e_mleftarr hfr h
          intro en1 mleft x1 x2 x3 e_model e_mwarr e_mnamesarr e_mleftarr hfr h
          rw [f_X11_findNight_L34] at h
          refine G_iload_n hC 3 3 rfl rfl dX11_findNight_34 ?_
          refine G_bipush hC (v := 100) (by decide) dX11_findNight_35 ?_
          refine G_icmp_ge hC 175 dX11_findNight_37 (by decide) (fun c37 => ?_) (fun c37 => ?_)
          · have h := ifp c37 h
            refine G_iinc hC 2 2 [(2, .int (x2 + (-1 : Int32))), (0, .ref (ad 100)), (1, .int x1), (3, .int x3)] rfl (congrArg (fun z => x2 + z) (by decide : Int32.ofInt (-1) = (-1 : Int32))) (by decide) rfl dX11_findNight_175 ?_
            refine G_goto hC 28 dX11_findNight_178 (by decide) ?_
            refine G_lv [1, 2, 0] rfl ?_
            exact ih28 _ _ _ _ e_model e_mwarr e_mnamesarr e_mleftarr hfr h
          have h := ifn c37 h
          refine G_iload_n hC 1 1 rfl rfl dX11_findNight_40 ?_
          refine G_iload_n hC 2 2 rfl rfl dX11_findNight_41 ?_
          obtain ⟨q42, h42, h⟩ := bnd h
          refine G_cSi (st := []) hC _ (c_X11_holds  l  h42) (va_cwS 2 hC.hts gX11_findNight_X11_holds rfl rfl rfl (by decide +kernel) ⟨Nat.le_of_ble_eq_true rfl, Nat.le_of_ble_eq_true rfl⟩) rfl (Nat.le_of_ble_eq_true rfl) (Nat.zero_le _) (Nat.zero_le _) rfl dX11_findNight_42 (fun r42 enx hw => ?_)
          obtain ⟨rfl, rfl⟩ := hw
          refine G_if_eq hC 52 dX11_findNight_45 (by decide) (fun c45 => ?_) (fun c45 => ?_)
          · have h := ifp c45 h
            refine G_aload_n hC 0 0 rfl rfl dX11_findNight_52 ?_
            refine G_get hC inX11 100 (by omega) (v := .ref (ad 109)) e_model rfl 18 (by decide) m40 rfl rfl dX11_findNight_53 ?_
            refine G_bipush hC (v := 100) (by decide) dX11_findNight_56 ?_
            refine G_iload_n hC 2 2 rfl rfl dX11_findNight_58 ?_
            refine G_iconst hC (v := 1) (by decide) dX11_findNight_59 ?_
            refine G_iadd hC dX11_findNight_60 ?_
            refine G_imul hC dX11_findNight_61 ?_
            refine G_iload_n hC 3 3 rfl rfl dX11_findNight_62 ?_
            refine G_iadd hC dX11_findNight_63 ?_
            obtain ⟨g64, h⟩ := asn h
            refine G_iald hC 109 (by omega) e_mleftarr g64 dX11_findNight_64 ?_
            refine G_lv [0, 1, 2, 3] rfl ?_
            exact hB65 _ _ _ _ _ _ e_model e_mwarr e_mnamesarr e_mleftarr hfr h
          have h := ifn c45 h
          refine G_iconst hC (v := 0) (by decide) dX11_findNight_48 ?_
          refine G_goto hC 65 dX11_findNight_49 (by decide) ?_
          refine G_lv [0, 1, 2, 3] rfl ?_
          exact hB65 _ _ _ _ _ _ e_model e_mwarr e_mnamesarr e_mleftarr hfr h
      intro en1 mleft x1 x2 e_model e_mwarr e_mnamesarr e_mleftarr hfr h
      rw [f_X11_findNight_L28] at h
      refine G_iload_n hC 2 2 rfl rfl dX11_findNight_28 ?_
      refine G_if_lt hC 181 dX11_findNight_29 (by decide) (fun c29 => ?_) (fun c29 => ?_)
      · have h := ifp c29 h
        have h := Option.some.inj h
        subst h
        exact Kr _ _ _ ⟨e_mleftarr, hfr⟩ dX11_findNight_181
      have h := ifn c29 h
      refine G_iconst hC (v := 0) (by decide) dX11_findNight_32 ?_
      refine G_istore_n hC 3 [(3, .int (0 : Int32)), (0, .ref (ad 100)), (1, .int x1), (2, .int x2)] rfl (by decide) rfl dX11_findNight_33 ?_
      refine G_lv [1, 2, 3, 0] rfl ?_
      exact hL34 FU _ _ _ _ _ e_model e_mwarr e_mnamesarr e_mleftarr hfr h
  have hL2 : ∀ (fu2 : Nat), ∀ (en1 : Nat → va_E) (mleft : Nat → Int32) (x1 : Int32) (x2 : Int32), en1 100 = .inr (8, [.ref (ad 101), .ref (ad 102), .ref (ad 103), .ref (ad 104), .int mtexted, .int mundo, .long mabove, .long mbelow, .ref (ad 105), .ref (ad 106), .ref (ad 107), .ref (ad 108), .int mitems, .int mat, .int mfault, .int mtakes, .long mmisses, .long mbest, .ref (ad 109), .long mh]) → en1 101 = .inl (cs 1, 960, .inl (mw)) → en1 102 = .inl (cs 2, 96, .inr (.inl (mnames))) → en1 109 = .inl (cs 1, 1300, .inl (mleft)) → (∀ j, (j < 109 ∨ 110 ≤ j) → en1 j = en j) → f_X11_findNight_L2 mw mnames fu2 mleft x1 x2 = some q → G p l e ({ frames := 3, cells := 0, slots := 0, locals := 69 } : Room) s m args below meth c D n ad A 8 0 0 Q en1 2 [(0, .ref (ad 100)), (1, .int x1), (2, .int x2)] [] := by
    intro fu2
    induction fu2 with
    | zero =>
      intro en1 mleft x1 x2 e_model e_mwarr e_mnamesarr e_mleftarr hfr h
      rw [f_X11_findNight_L2] at h
      cases h
    | succ fu2 ih2 =>
      intro en1 mleft x1 x2 e_model e_mwarr e_mnamesarr e_mleftarr hfr h
      rw [f_X11_findNight_L2] at h
      refine G_iload_n hC 2 2 rfl rfl dX11_findNight_2 ?_
      refine G_bipush hC (v := 100) (by decide) dX11_findNight_3 ?_
      refine G_icmp_ge hC 25 dX11_findNight_5 (by decide) (fun c5 => ?_) (fun c5 => ?_)
      · have h := ifp c5 h
        refine G_bipush hC (v := 11) (by decide) dX11_findNight_25 ?_
        refine G_istore_n hC 2 [(2, .int (11 : Int32)), (0, .ref (ad 100)), (1, .int x1)] rfl (by decide) rfl dX11_findNight_27 ?_
        refine G_lv [1, 2, 0] rfl ?_
        exact hL28 FU _ _ _ _ e_model e_mwarr e_mnamesarr e_mleftarr hfr h
      have h := ifn c5 h
      refine G_aload_n hC 0 0 rfl rfl dX11_findNight_8 ?_
      refine G_get hC inX11 100 (by omega) (v := .ref (ad 109)) e_model rfl 18 (by decide) m40 rfl rfl dX11_findNight_9 ?_
      refine G_sipush hC (v := 1200) (by decide) dX11_findNight_12 ?_
      refine G_iload_n hC 2 2 rfl rfl dX11_findNight_15 ?_
      refine G_iadd hC dX11_findNight_16 ?_
      refine G_iconst hC (v := 0) (by decide) dX11_findNight_17 ?_
      obtain ⟨g18, h⟩ := asn h
      refine G_iast hC 109 (by omega) e_mleftarr g18 dX11_findNight_18 (fun en2 e_mleftarr fr => ?_)
      have e_mleftarr : en2 109 = .inl (cs 1, 1300, .inl (upd mleft ((1200 : Int32) + x2).toNatClampNeg (0 : Int32))) := e_mleftarr
      have e_model := (fr 100 (by omega)).trans e_model
      have e_mwarr := (fr 101 (by omega)).trans e_mwarr
      have e_mnamesarr := (fr 102 (by omega)).trans e_mnamesarr
      have hfr : ∀ j, (j < 109 ∨ 110 ≤ j) → en2 j = en j := fun j o0 => (fr j (by omega)).trans (hfr j o0)
      refine G_iinc hC 2 2 [(2, .int (x2 + (1 : Int32))), (0, .ref (ad 100)), (1, .int x1)] rfl rfl (by decide) rfl dX11_findNight_19 ?_
      refine G_goto hC 2 dX11_findNight_22 (by decide) ?_
      refine G_lv [1, 2, 0] rfl ?_
      exact ih2 _ _ _ _ e_model e_mwarr e_mnamesarr e_mleftarr hfr h
  unfold f_X11_findNight at h
  have hfr : ∀ j, (j < 109 ∨ 110 ≤ j) → en j = en j := fun _ _ => rfl
  refine G_iconst hC (v := 0) (by decide) dX11_findNight_0 ?_
  refine G_istore_n hC 2 [(2, .int (0 : Int32)), (0, .ref (ad 100)), (1, .int x1)] rfl (by decide) rfl dX11_findNight_1 ?_
  refine G_lv [1, 2, 0] rfl ?_
  exact hL2 FU _ _ _ _ e_model e_mwarr e_mnamesarr e_mleftarr hfr h
def f_X11_learn_B198 (mw : Nat → Int32) (mnames : Nat → Int64) (rL84 : (Nat → Int32) → (Nat → Int32) → Int32 → Int32 → Int32 → Int32 → Int32 → Option (Int32 × (Nat → Int32) × (Nat → Int32))) (mrefused : Nat → Int32) (mleft : Nat → Int32) (x1 : Int32) (x3 : Int32) (x4 : Int32) (x5 : Int32) (x6 : Int32) : Option (Int32 × (Nat → Int32) × (Nat → Int32)) := rL84 mrefused mleft x1 x3 x4 x5 (x6 + (1 : Int32))
def f_X11_learn_B174 (mw : Nat → Int32) (mnames : Nat → Int64) (rL84 : (Nat → Int32) → (Nat → Int32) → Int32 → Int32 → Int32 → Int32 → Int32 → Option (Int32 × (Nat → Int32) × (Nat → Int32))) (rL102 : (Nat → Int32) → (Nat → Int32) → Int32 → Int32 → Int32 → Int32 → Int32 → Option (Int32 × (Nat → Int32) × (Nat → Int32))) (mrefused : Nat → Int32) (mleft : Nat → Int32) (x1 : Int32) (x3 : Int32) (x4 : Int32) (x5 : Int32) (x6 : Int32) : Option (Int32 × (Nat → Int32) × (Nat → Int32)) := rL102 mrefused mleft x1 x3 x4 (x5 + (1 : Int32)) x6
def f_X11_learn_L102 (mw : Nat → Int32) (mnames : Nat → Int64) (rL84 : (Nat → Int32) → (Nat → Int32) → Int32 → Int32 → Int32 → Int32 → Int32 → Option (Int32 × (Nat → Int32) × (Nat → Int32))) : Nat → (Nat → Int32) → (Nat → Int32) → Int32 → Int32 → Int32 → Int32 → Int32 → Option (Int32 × (Nat → Int32) × (Nat → Int32))
  | 0, _, _, _, _, _, _, _ => none
  | fu + 1, mrefused, mleft, x1, x3, x4, x5, x6 => if x6 < 0 ∨ 96 ≤ x6.toNatClampNeg then none else (Option.bind (f_X11_lettersOf (mnames x6.toNatClampNeg)) (fun q113 => if x4 < x5 * q113 then (f_X11_learn_B174 mw mnames rL84 (f_X11_learn_L102 mw mnames rL84 fu) mrefused mleft x1 x3 x4 x5 x6) else (if x6 < 0 ∨ 96 ≤ x6.toNatClampNeg then none else (Option.bind (f_X11_lettersOf (mnames x6.toNatClampNeg)) (fun q143 => if (((100 : Int32) * (x6 + (1 : Int32))) + x4) - (x5 * q143) < 0 ∨ 1300 ≤ ((((100 : Int32) * (x6 + (1 : Int32))) + x4) - (x5 * q143)).toNatClampNeg then none else (Option.bind (f_X11_keeps mw x6 x5) (fun q154 => if ((100 : Int32) * x6) + x4 < 0 ∨ 1300 ≤ (((100 : Int32) * x6) + x4).toNatClampNeg then none else (if (mleft ((((100 : Int32) * (x6 + (1 : Int32))) + x4) - (x5 * q143)).toNatClampNeg) + q154 = mleft (((100 : Int32) * x6) + x4).toNatClampNeg then (if x6 < 0 ∨ 96 ≤ x6.toNatClampNeg then none else (Option.bind (f_X11_lettersOf (mnames x6.toNatClampNeg)) (fun q191 => f_X11_learn_B198 mw mnames rL84 mrefused mleft x1 x3 (x4 - (x5 * q191)) x5 x6))) else (f_X11_learn_B174 mw mnames rL84 (f_X11_learn_L102 mw mnames rL84 fu) mrefused mleft x1 x3 x4 x5 x6)))))))))
def f_X11_learn_L84 (mw : Nat → Int32) (mnames : Nat → Int64)  : Nat → (Nat → Int32) → (Nat → Int32) → Int32 → Int32 → Int32 → Int32 → Int32 → Option (Int32 × (Nat → Int32) × (Nat → Int32))
  | 0, _, _, _, _, _, _, _ => none
  | fu + 1, mrefused, mleft, x1, x3, x4, x5, x6 => if x3 < x6 then (some (x5, mrefused, mleft)) else (Option.bind (f_X11_holds x1 x6) (fun q93 => if q93 = 0 then (f_X11_learn_B198 mw mnames (f_X11_learn_L84 mw mnames fu) mrefused mleft x1 x3 x4 x5 x6) else (f_X11_learn_L102 mw mnames (f_X11_learn_L84 mw mnames fu) FU mrefused mleft x1 x3 x4 (0 : Int32) x6)))
def f_X11_learn_B58 (mw : Nat → Int32) (mnames : Nat → Int64)  (mrefused : Nat → Int32) (mleft : Nat → Int32) (x1 : Int32) (x2 : Int32) (x3 : Int32) : Option (Int32 × (Nat → Int32) × (Nat → Int32)) := Option.bind (f_X11_findNight mw mnames mleft x1) (fun q60 => if x3 = (-1 : Int32) then (if x2 < 0 ∨ 1300 ≤ x2.toNatClampNeg then none else (some (q60 x2.toNatClampNeg, mrefused, q60))) else (f_X11_learn_L84 mw mnames FU mrefused q60 x1 x3 x2 (0 : Int32) (0 : Int32)))
def f_X11_learn_B53 (mw : Nat → Int32) (mnames : Nat → Int64)  (mrefused : Nat → Int32) (mleft : Nat → Int32) : Option (Int32 × (Nat → Int32) × (Nat → Int32)) := Option.bind (f_X11_toldElse mrefused) (fun q54 => some (q54.1, q54.2, mleft))
def f_X11_learn (mw : Nat → Int32) (mnames : Nat → Int64) (mrefused : Nat → Int32) (mleft : Nat → Int32) (x1 : Int32) (x2 : Int32) (x3 : Int32) : Option (Int32 × (Nat → Int32) × (Nat → Int32)) := if (0 : Int32) < 0 ∨ 960 ≤ (0 : Int32).toNatClampNeg then none else (Option.bind (f_X11_in x1.toInt64 (0 : Int64) ((((1 : Int32) <<< ((mw (0 : Int32).toNatClampNeg) &&& (31 : Int32))) - (1 : Int32)).toInt64)) (fun q14 => if q14 = 0 then (f_X11_learn_B53 mw mnames mrefused mleft) else (Option.bind (f_X11_in x2.toInt64 (0 : Int64) (99 : Int64)) (fun q26 => if q26 = 0 then (f_X11_learn_B53 mw mnames mrefused mleft) else (if x3 = (-1 : Int32) then (f_X11_learn_B58 mw mnames mrefused mleft x1 x2 x3) else (Option.bind (f_X11_isOne mw x3) (fun q39 => if q39 = 0 then (f_X11_learn_B53 mw mnames mrefused mleft) else (Option.bind (f_X11_holds x1 x3) (fun q47 => if q47 = 0 then (f_X11_learn_B53 mw mnames mrefused mleft) else (f_X11_learn_B58 mw mnames mrefused mleft x1 x2 x3))))))))))
set_option maxHeartbeats 4000000 in
set_option maxRecDepth 100000 in
theorem c_X11_learn {D : va_G} {cs : Nat → ClassId} {sa : Nat → Nat} {n : Nat} {ad : Nat → Nat} {A : Nat → Prop} (l : Launch) {en : Nat → va_E}  {mw : Nat → Int32} {mnames : Nat → Int64} {mtexted : Int32} {mundo : Int32} {mabove : Int64} {mbelow : Int64} {mrefused : Nat → Int32} {mitems : Int32} {mat : Int32} {mfault : Int32} {mtakes : Int32} {mmisses : Int64} {mbest : Int64} {mleft : Nat → Int32} {mh : Int64} {x1 : Int32} {x2 : Int32} {x3 : Int32}  {q : Int32 × (Nat → Int32) × (Nat → Int32)} (hn : 110 ≤ n) (e_model : en 100 = .inr (8, [.ref (ad 101), .ref (ad 102), .ref (ad 103), .ref (ad 104), .int mtexted, .int mundo, .long mabove, .long mbelow, .ref (ad 105), .ref (ad 106), .ref (ad 107), .ref (ad 108), .int mitems, .int mat, .int mfault, .int mtakes, .long mmisses, .long mbest, .ref (ad 109), .long mh])) (e_mwarr : en 101 = .inl (cs 1, 960, .inl (mw))) (e_mnamesarr : en 102 = .inl (cs 2, 96, .inr (.inl (mnames)))) (e_mrefusedarr : en 105 = .inl (cs 1, 3, .inl (mrefused))) (e_mleftarr : en 109 = .inl (cs 1, 1300, .inl (mleft))) (h : f_X11_learn mw mnames mrefused mleft x1 x2 x3 = some q) : Met l yX11_learn wsX11_learn { frames := 4, cells := 0, slots := 0, locals := 96 } (va_Pc [.ref (ad 100), .int x1, .int x2, .int x3] (Wd D cs sa n ad A en)) (va_Qi (fun r u => q.1 = r ∧ u 105 = .inl (cs 1, 3, .inl (q.2.1)) ∧ u 109 = .inl (cs 1, 1300, .inl (q.2.2)) ∧ (∀ j, (j < 105 ∨ 106 ≤ j) → (j < 109 ∨ 110 ≤ j) → u j = en j)) (Wd D cs sa n ad A) A) 0 0 A := by
  refine G_startI cX11_learn 7 [(0, .ref (ad 100)), (1, .int x1), (2, .int x2), (3, .int x3)] (by decide) rfl (Nat.le_of_ble_eq_true rfl) rfl ?_
  intro p e s m args below meth c Q hC hnm Kr
  have inX11 : ∀ w ∈ u_ws RX11 TX11 20, w ∈ wsX11_learn := by decide +kernel
  have k69 : Cond.constantLong RX11 69 (99) ∈ wsX11_learn := by decide +kernel
  have m13 : Cond.fieldLink RX11 13 "TongueTipModel" "names" "[J" ∈ wsX11_learn := by decide +kernel
  have m40 : Cond.fieldLink RX11 40 "TongueTipModel" "left" "[I" ∈ wsX11_learn := by decide +kernel
  have m7 : Cond.fieldLink RX11 7 "TongueTipModel" "w" "[I" ∈ wsX11_learn := by decide +kernel
  have hL84 : ∀ (fu84 : Nat), ∀ (en1 : Nat → va_E) (mrefused : Nat → Int32) (mleft : Nat → Int32) (x1 : Int32) (x3 : Int32) (x4 : Int32) (x5 : Int32) (x6 : Int32), en1 100 = .inr (8, [.ref (ad 101), .ref (ad 102), .ref (ad 103), .ref (ad 104), .int mtexted, .int mundo, .long mabove, .long mbelow, .ref (ad 105), .ref (ad 106), .ref (ad 107), .ref (ad 108), .int mitems, .int mat, .int mfault, .int mtakes, .long mmisses, .long mbest, .ref (ad 109), .long mh]) → en1 101 = .inl (cs 1, 960, .inl (mw)) → en1 102 = .inl (cs 2, 96, .inr (.inl (mnames))) → en1 105 = .inl (cs 1, 3, .inl (mrefused)) → en1 109 = .inl (cs 1, 1300, .inl (mleft)) → (∀ j, (j < 105 ∨ 106 ≤ j) → (j < 109 ∨ 110 ≤ j) → en1 j = en j) → f_X11_learn_L84 mw mnames fu84 mrefused mleft x1 x3 x4 x5 x6 = some q → G p l e ({ frames := 4, cells := 0, slots := 0, locals := 96 } : Room) s m args below meth c D n ad A 7 0 0 Q en1 84 [(0, .ref (ad 100)), (1, .int x1), (3, .int x3), (4, .int x4), (5, .int x5), (6, .int x6)] [] := by
    intro fu84
    induction fu84 with
    | zero =>
      intro en1 mrefused mleft x1 x3 x4 x5 x6 e_model e_mwarr e_mnamesarr e_mrefusedarr e_mleftarr hfr h
      rw [f_X11_learn_L84] at h
      cases h
    | succ fu84 ih84 =>
      have hB198 : ∀ (en1 : Nat → va_E) (mrefused : Nat → Int32) (mleft : Nat → Int32) (x1 : Int32) (x3 : Int32) (x4 : Int32) (x5 : Int32) (x6 : Int32), en1 100 = .inr (8, [.ref (ad 101), .ref (ad 102), .ref (ad 103), .ref (ad 104), .int mtexted, .int mundo, .long mabove, .long mbelow, .ref (ad 105), .ref (ad 106), .ref (ad 107), .ref (ad 108), .int mitems, .int mat, .int mfault, .int mtakes, .long mmisses, .long mbest, .ref (ad 109), .long mh]) → en1 101 = .inl (cs 1, 960, .inl (mw)) → en1 102 = .inl (cs 2, 96, .inr (.inl (mnames))) → en1 105 = .inl (cs 1, 3, .inl (mrefused)) → en1 109 = .inl (cs 1, 1300, .inl (mleft)) → (∀ j, (j < 105 ∨ 106 ≤ j) → (j < 109 ∨ 110 ≤ j) → en1 j = en j) → f_X11_learn_B198 mw mnames (f_X11_learn_L84 mw mnames fu84) mrefused mleft x1 x3 x4 x5 x6 = some q → G p l e ({ frames := 4, cells := 0, slots := 0, locals := 96 } : Room) s m args below meth c D n ad A 7 0 0 Q en1 198 [(0, .ref (ad 100)), (1, .int x1), (3, .int x3), (4, .int x4), (5, .int x5), (6, .int x6)] [] := by
        intro en1 mrefused mleft x1 x3 x4 x5 x6 e_model e_mwarr e_mnamesarr e_mrefusedarr e_mleftarr hfr h
        unfold f_X11_learn_B198 at h
        refine G_iinc hC 6 5 [(6, .int (x6 + (1 : Int32))), (0, .ref (ad 100)), (1, .int x1), (3, .int x3), (4, .int x4), (5, .int x5)] rfl rfl (by decide) rfl dX11_learn_198 ?_
        refine G_goto hC 84 dX11_learn_201 (by decide) ?_
        refine G_lv [1, 2, 3, 4, 5, 0] rfl ?_
        exact ih84 _ _ _ _ _ _ _ _ e_model e_mwarr e_mnamesarr e_mrefusedarr e_mleftarr hfr h
      have hL102 : ∀ (fu102 : Nat), ∀ (en1 : Nat → va_E) (mrefused : Nat → Int32) (mleft : Nat → Int32) (x1 : Int32) (x3 : Int32) (x4 : Int32) (x5 : Int32) (x6 : Int32), en1 100 = .inr (8, [.ref (ad 101), .ref (ad 102), .ref (ad 103), .ref (ad 104), .int mtexted, .int mundo, .long mabove, .long mbelow, .ref (ad 105), .ref (ad 106), .ref (ad 107), .ref (ad 108), .int mitems, .int mat, .int mfault, .int mtakes, .long mmisses, .long mbest, .ref (ad 109), .long mh]) → en1 101 = .inl (cs 1, 960, .inl (mw)) → en1 102 = .inl (cs 2, 96, .inr (.inl (mnames))) → en1 105 = .inl (cs 1, 3, .inl (mrefused)) → en1 109 = .inl (cs 1, 1300, .inl (mleft)) → (∀ j, (j < 105 ∨ 106 ≤ j) → (j < 109 ∨ 110 ≤ j) → en1 j = en j) → f_X11_learn_L102 mw mnames (f_X11_learn_L84 mw mnames fu84) fu102 mrefused mleft x1 x3 x4 x5 x6 = some q → G p l e ({ frames := 4, cells := 0, slots := 0, locals := 96 } : Room) s m args below meth c D n ad A 7 0 0 Q en1 102 [(0, .ref (ad 100)), (1, .int x1), (3, .int x3), (4, .int x4), (5, .int x5), (6, .int x6)] [] := by
        intro fu102
        induction fu102 with
        | zero =>
          intro en1 mrefused mleft x1 x3 x4 x5 x6 e_model e_mwarr e_mnamesarr e_mrefusedarr e_mleftarr hfr h
          rw [f_X11_learn_L102] at h
          cases h
        | succ fu102 ih102 =>
          have hB174 : ∀ (en1 : Nat → va_E) (mrefused : Nat → Int32) (mleft : Nat → Int32) (x1 : Int32) (x3 : Int32) (x4 : Int32) (x5 : Int32) (x6 : Int32), en1 100 = .inr (8, [.ref (ad 101), .ref (ad 102), .ref (ad 103), .ref (ad 104), .int mtexted, .int mundo, .long mabove, .long mbelow, .ref (ad 105), .ref (ad 106), .ref (ad 107), .ref (ad 108), .int mitems, .int mat, .int mfault, .int mtakes, .long mmisses, .long mbest, .ref (ad 109), .long mh]) → en1 101 = .inl (cs 1, 960, .inl (mw)) → en1 102 = .inl (cs 2, 96, .inr (.inl (mnames))) → en1 105 = .inl (cs 1, 3, .inl (mrefused)) → en1 109 = .inl (cs 1, 1300, .inl (mleft)) → (∀ j, (j < 105 ∨ 106 ≤ j) → (j < 109 ∨ 110 ≤ j) → en1 j = en j) → f_X11_learn_B174 mw mnames (f_X11_learn_L84 mw mnames fu84) (f_X11_learn_L102 mw mnames (f_X11_learn_L84 mw mnames fu84) fu102) mrefused mleft x1 x3 x4 x5 x6 = some q → G p l e ({ frames := 4, cells := 0, slots := 0, locals := 96 } : Room) s m args below meth c D n ad A 7 0 0 Q en1 174 [(0, .ref (ad 100)), (1, .int x1), (3, .int x3), (4, .int x4), (5, .int x5), (6, .int x6)] [] := by
            intro en1 mrefused mleft x1 x3 x4 x5 x6 e_model e_mwarr e_mnamesarr e_mrefusedarr e_mleftarr hfr h
            unfold f_X11_learn_B174 at h
            refine G_iinc hC 5 4 [(5, .int (x5 + (1 : Int32))), (0, .ref (ad 100)), (1, .int x1), (3, .int x3), (4, .int x4), (6, .int x6)] rfl rfl (by decide) rfl dX11_learn_174 ?_
            refine G_goto hC 102 dX11_learn_177 (by decide) ?_
            refine G_lv [1, 2, 3, 4, 0, 5] rfl ?_
            exact ih102 _ _ _ _ _ _ _ _ e_model e_mwarr e_mnamesarr e_mrefusedarr e_mleftarr hfr h
          intro en1 mrefused mleft x1 x3 x4 x5 x6 e_model e_mwarr e_mnamesarr e_mrefusedarr e_mleftarr hfr h
          rw [f_X11_learn_L102] at h
          refine G_iload hC 4 3 rfl dX11_learn_102 ?_
          refine G_iload hC 5 4 rfl dX11_learn_104 ?_
          refine G_aload_n hC 0 0 rfl rfl dX11_learn_106 ?_
          refine G_get hC inX11 100 (by omega) (v := .ref (ad 102)) e_model rfl 1 (by decide) m13 rfl rfl dX11_learn_107 ?_
          refine G_iload hC 6 5 rfl dX11_learn_110 ?_
          obtain ⟨g112, h⟩ := asn h
          refine G_lald hC 102 (by omega) e_mnamesarr g112 dX11_learn_112 ?_
          obtain ⟨q113, h113, h⟩ := bnd h
          refine G_cSi (st := [.int x5, .int x4]) hC _ (c_X11_lettersOf  l  h113) (va_cwS 1 hC.hts gX11_learn_X11_lettersOf rfl rfl rfl (by decide +kernel) ⟨Nat.le_of_ble_eq_true rfl, Nat.le_of_ble_eq_true rfl⟩) rfl (Nat.le_of_ble_eq_true rfl) (Nat.zero_le _) (Nat.zero_le _) rfl dX11_learn_113 (fun r113 enx hw => ?_)
          obtain ⟨rfl, rfl⟩ := hw
          refine G_imul hC dX11_learn_116 ?_
          refine G_icmp_lt hC 174 dX11_learn_117 (by decide) (fun c117 => ?_) (fun c117 => ?_)
          · have h := ifp c117 h
            refine G_lv [0, 1, 2, 3, 4, 5] rfl ?_
            exact hB174 _ _ _ _ _ _ _ _ e_model e_mwarr e_mnamesarr e_mrefusedarr e_mleftarr hfr h
          have h := ifn c117 h
          refine G_aload_n hC 0 0 rfl rfl dX11_learn_120 ?_
          refine G_get hC inX11 100 (by omega) (v := .ref (ad 109)) e_model rfl 18 (by decide) m40 rfl rfl dX11_learn_121 ?_
          refine G_bipush hC (v := 100) (by decide) dX11_learn_124 ?_
          refine G_iload hC 6 5 rfl dX11_learn_126 ?_
          refine G_iconst hC (v := 1) (by decide) dX11_learn_128 ?_
          refine G_iadd hC dX11_learn_129 ?_
          refine G_imul hC dX11_learn_130 ?_
          refine G_iload hC 4 3 rfl dX11_learn_131 ?_
          refine G_iadd hC dX11_learn_133 ?_
          refine G_iload hC 5 4 rfl dX11_learn_134 ?_
          refine G_aload_n hC 0 0 rfl rfl dX11_learn_136 ?_
          refine G_get hC inX11 100 (by omega) (v := .ref (ad 102)) e_model rfl 1 (by decide) m13 rfl rfl dX11_learn_137 ?_
          refine G_iload hC 6 5 rfl dX11_learn_140 ?_
          obtain ⟨g142, h⟩ := asn h
          refine G_lald hC 102 (by omega) e_mnamesarr g142 dX11_learn_142 ?_
          obtain ⟨q143, h143, h⟩ := bnd h
          refine G_cSi (st := [.int x5, .int (((100 : Int32) * (x6 + (1 : Int32))) + x4), .ref (ad 109)]) hC _ (c_X11_lettersOf  l  h143) (va_cwS 1 hC.hts gX11_learn_X11_lettersOf rfl rfl rfl (by decide +kernel) ⟨Nat.le_of_ble_eq_true rfl, Nat.le_of_ble_eq_true rfl⟩) rfl (Nat.le_of_ble_eq_true rfl) (Nat.zero_le _) (Nat.zero_le _) rfl dX11_learn_143 (fun r143 enx hw => ?_)
          obtain ⟨rfl, rfl⟩ := hw
          refine G_imul hC dX11_learn_146 ?_
          refine G_isub hC dX11_learn_147 ?_
          obtain ⟨g148, h⟩ := asn h
          refine G_iald hC 109 (by omega) e_mleftarr g148 dX11_learn_148 ?_
          refine G_aload_n hC 0 0 rfl rfl dX11_learn_149 ?_
          refine G_iload hC 6 5 rfl dX11_learn_150 ?_
          refine G_iload hC 5 4 rfl dX11_learn_152 ?_
          obtain ⟨q154, h154, h⟩ := bnd h
          refine G_cVi (st := [.int (mleft ((((100 : Int32) * (x6 + (1 : Int32))) + x4) - (x5 * q143)).toNatClampNeg)]) hC _ 100 (by omega) (c_X11_keeps  l (by omega) e_model e_mwarr h154) (cwV 2 hC.hts gX11_learn_X11_keeps rfl rfl rfl (by decide +kernel) ⟨Nat.le_of_ble_eq_true rfl, Nat.le_of_ble_eq_true rfl⟩) e_model rfl rfl (Nat.le_of_ble_eq_true rfl) (Nat.zero_le _) (Nat.zero_le _) rfl dX11_learn_154 (fun r154 enx hw => ?_)
          obtain ⟨rfl, rfl⟩ := hw
          refine G_iadd hC dX11_learn_157 ?_
          refine G_aload_n hC 0 0 rfl rfl dX11_learn_158 ?_
          refine G_get hC inX11 100 (by omega) (v := .ref (ad 109)) e_model rfl 18 (by decide) m40 rfl rfl dX11_learn_159 ?_
          refine G_bipush hC (v := 100) (by decide) dX11_learn_162 ?_
          refine G_iload hC 6 5 rfl dX11_learn_164 ?_
          refine G_imul hC dX11_learn_166 ?_
          refine G_iload hC 4 3 rfl dX11_learn_167 ?_
          refine G_iadd hC dX11_learn_169 ?_
          obtain ⟨g170, h⟩ := asn h
          refine G_iald hC 109 (by omega) e_mleftarr g170 dX11_learn_170 ?_
          refine G_icmp_eq hC 180 dX11_learn_171 (by decide) (fun c171 => ?_) (fun c171 => ?_)
          · have h := ifp c171 h
            refine G_iload hC 4 3 rfl dX11_learn_180 ?_
            refine G_iload hC 5 4 rfl dX11_learn_182 ?_
            refine G_aload_n hC 0 0 rfl rfl dX11_learn_184 ?_
            refine G_get hC inX11 100 (by omega) (v := .ref (ad 102)) e_model rfl 1 (by decide) m13 rfl rfl dX11_learn_185 ?_
            refine G_iload hC 6 5 rfl dX11_learn_188 ?_
            obtain ⟨g190, h⟩ := asn h
            refine G_lald hC 102 (by omega) e_mnamesarr g190 dX11_learn_190 ?_
            obtain ⟨q191, h191, h⟩ := bnd h
            refine G_cSi (st := [.int x5, .int x4]) hC _ (c_X11_lettersOf  l  h191) (va_cwS 1 hC.hts gX11_learn_X11_lettersOf rfl rfl rfl (by decide +kernel) ⟨Nat.le_of_ble_eq_true rfl, Nat.le_of_ble_eq_true rfl⟩) rfl (Nat.le_of_ble_eq_true rfl) (Nat.zero_le _) (Nat.zero_le _) rfl dX11_learn_191 (fun r191 enx hw => ?_)
            obtain ⟨rfl, rfl⟩ := hw
            refine G_imul hC dX11_learn_194 ?_
            refine G_isub hC dX11_learn_195 ?_
            refine G_istore hC 4 [(4, .int (x4 - (x5 * q191))), (0, .ref (ad 100)), (1, .int x1), (3, .int x3), (5, .int x5), (6, .int x6)] (by decide) rfl dX11_learn_196 ?_
            refine G_lv [1, 2, 3, 0, 4, 5] rfl ?_
            exact hB198 _ _ _ _ _ _ _ _ e_model e_mwarr e_mnamesarr e_mrefusedarr e_mleftarr hfr h
          have h := ifn c171 h
          refine G_lv [0, 1, 2, 3, 4, 5] rfl ?_
          exact hB174 _ _ _ _ _ _ _ _ e_model e_mwarr e_mnamesarr e_mrefusedarr e_mleftarr hfr h
      intro en1 mrefused mleft x1 x3 x4 x5 x6 e_model e_mwarr e_mnamesarr e_mrefusedarr e_mleftarr hfr h
      rw [f_X11_learn_L84] at h
      refine G_iload hC 6 5 rfl dX11_learn_84 ?_
      refine G_iload_n hC 3 2 rfl rfl dX11_learn_86 ?_
      refine G_icmp_gt hC 204 dX11_learn_87 (by decide) (fun c87 => ?_) (fun c87 => ?_)
      · have h := ifp c87 h
        refine G_iload hC 5 4 rfl dX11_learn_204 ?_
        have h := Option.some.inj h
        subst h
        exact Kr _ _ _ _ (nar_i _) ⟨rfl, e_mrefusedarr, e_mleftarr, hfr⟩ dX11_learn_206
      have h := ifn c87 h
      refine G_iload_n hC 1 1 rfl rfl dX11_learn_90 ?_
      refine G_iload hC 6 5 rfl dX11_learn_91 ?_
      obtain ⟨q93, h93, h⟩ := bnd h
      refine G_cSi (st := []) hC _ (c_X11_holds  l  h93) (va_cwS 2 hC.hts gX11_learn_X11_holds rfl rfl rfl (by decide +kernel) ⟨Nat.le_of_ble_eq_true rfl, Nat.le_of_ble_eq_true rfl⟩) rfl (Nat.le_of_ble_eq_true rfl) (Nat.zero_le _) (Nat.zero_le _) rfl dX11_learn_93 (fun r93 enx hw => ?_)
      obtain ⟨rfl, rfl⟩ := hw
      refine G_if_eq hC 198 dX11_learn_96 (by decide) (fun c96 => ?_) (fun c96 => ?_)
      · have h := ifp c96 h
        refine G_lv [0, 1, 2, 3, 4, 5] rfl ?_
        exact hB198 _ _ _ _ _ _ _ _ e_model e_mwarr e_mnamesarr e_mrefusedarr e_mleftarr hfr h
      have h := ifn c96 h
      refine G_iconst hC (v := 0) (by decide) dX11_learn_99 ?_
      refine G_istore hC 5 [(5, .int (0 : Int32)), (0, .ref (ad 100)), (1, .int x1), (3, .int x3), (4, .int x4), (6, .int x6)] (by decide) rfl dX11_learn_100 ?_
      refine G_lv [1, 2, 3, 4, 0, 5] rfl ?_
      exact hL102 FU _ _ _ _ _ _ _ _ e_model e_mwarr e_mnamesarr e_mrefusedarr e_mleftarr hfr h
  have hB58 : ∀ (en1 : Nat → va_E) (mrefused : Nat → Int32) (mleft : Nat → Int32) (x1 : Int32) (x2 : Int32) (x3 : Int32), en1 100 = .inr (8, [.ref (ad 101), .ref (ad 102), .ref (ad 103), .ref (ad 104), .int mtexted, .int mundo, .long mabove, .long mbelow, .ref (ad 105), .ref (ad 106), .ref (ad 107), .ref (ad 108), .int mitems, .int mat, .int mfault, .int mtakes, .long mmisses, .long mbest, .ref (ad 109), .long mh]) → en1 101 = .inl (cs 1, 960, .inl (mw)) → en1 102 = .inl (cs 2, 96, .inr (.inl (mnames))) → en1 105 = .inl (cs 1, 3, .inl (mrefused)) → en1 109 = .inl (cs 1, 1300, .inl (mleft)) → (∀ j, (j < 105 ∨ 106 ≤ j) → (j < 109 ∨ 110 ≤ j) → en1 j = en j) → f_X11_learn_B58 mw mnames mrefused mleft x1 x2 x3 = some q → G p l e ({ frames := 4, cells := 0, slots := 0, locals := 96 } : Room) s m args below meth c D n ad A 7 0 0 Q en1 58 [(0, .ref (ad 100)), (1, .int x1), (2, .int x2), (3, .int x3)] [] := by
    intro en1 mrefused mleft x1 x2 x3 e_model e_mwarr e_mnamesarr e_mrefusedarr e_mleftarr hfr h
    unfold f_X11_learn_B58 at h
    refine G_aload_n hC 0 0 rfl rfl dX11_learn_58 ?_
    refine G_iload_n hC 1 1 rfl rfl dX11_learn_59 ?_
    obtain ⟨q60, h60, h⟩ := bnd h
    refine G_cVv (st := []) hC _ 100 (by omega) (c_X11_findNight  l (by omega) e_model e_mwarr e_mnamesarr e_mleftarr h60) (cwV 1 hC.hts gX11_learn_X11_findNight rfl rfl rfl (by decide +kernel) ⟨Nat.le_of_ble_eq_true rfl, Nat.le_of_ble_eq_true rfl⟩) e_model rfl rfl (Nat.le_of_ble_eq_true rfl) (Nat.zero_le _) (Nat.zero_le _) rfl dX11_learn_60 (fun en2 hw => ?_)
    obtain ⟨e_mleftarr, fr⟩ := hw
    have e_model := (fr 100 (by omega)).trans e_model
    have e_mwarr := (fr 101 (by omega)).trans e_mwarr
    have e_mnamesarr := (fr 102 (by omega)).trans e_mnamesarr
    have e_mrefusedarr := (fr 105 (by omega)).trans e_mrefusedarr
    have hfr : ∀ j, (j < 105 ∨ 106 ≤ j) → (j < 109 ∨ 110 ≤ j) → en2 j = en j := fun j o0 o1 => (fr j (by omega)).trans (hfr j o0 o1)
    refine G_iload_n hC 3 3 rfl rfl dX11_learn_63 ?_
    refine G_iconst hC (v := (-1)) (by decide) dX11_learn_64 ?_
    refine G_icmp_ne hC 75 dX11_learn_65 (by decide) (fun c65 => ?_) (fun c65 => ?_)
    · have h := ifn c65 h
      refine G_iload_n hC 2 2 rfl rfl dX11_learn_75 ?_
      refine G_istore hC 4 [(4, .int x2), (0, .ref (ad 100)), (1, .int x1), (2, .int x2), (3, .int x3)] (by decide) rfl dX11_learn_76 ?_
      refine G_iconst hC (v := 0) (by decide) dX11_learn_78 ?_
      refine G_istore hC 5 [(5, .int (0 : Int32)), (4, .int x2), (0, .ref (ad 100)), (1, .int x1), (2, .int x2), (3, .int x3)] (by decide) rfl dX11_learn_79 ?_
      refine G_iconst hC (v := 0) (by decide) dX11_learn_81 ?_
      refine G_istore hC 6 [(6, .int (0 : Int32)), (5, .int (0 : Int32)), (4, .int x2), (0, .ref (ad 100)), (1, .int x1), (2, .int x2), (3, .int x3)] (by decide) rfl dX11_learn_82 ?_
      refine G_lv [3, 4, 6, 2, 1, 0] rfl ?_
      exact hL84 FU _ _ _ _ _ _ _ _ e_model e_mwarr e_mnamesarr e_mrefusedarr e_mleftarr hfr h
    have h := ifp c65 h
    refine G_aload_n hC 0 0 rfl rfl dX11_learn_68 ?_
    refine G_get hC inX11 100 (by omega) (v := .ref (ad 109)) e_model rfl 18 (by decide) m40 rfl rfl dX11_learn_69 ?_
    refine G_iload_n hC 2 2 rfl rfl dX11_learn_72 ?_
    obtain ⟨g73, h⟩ := asn h
    refine G_iald hC 109 (by omega) e_mleftarr g73 dX11_learn_73 ?_
    have h := Option.some.inj h
    subst h
    exact Kr _ _ _ _ (nar_i _) ⟨rfl, e_mrefusedarr, e_mleftarr, hfr⟩ dX11_learn_74
  have hB53 : ∀ (en1 : Nat → va_E) (mrefused : Nat → Int32) (mleft : Nat → Int32), en1 100 = .inr (8, [.ref (ad 101), .ref (ad 102), .ref (ad 103), .ref (ad 104), .int mtexted, .int mundo, .long mabove, .long mbelow, .ref (ad 105), .ref (ad 106), .ref (ad 107), .ref (ad 108), .int mitems, .int mat, .int mfault, .int mtakes, .long mmisses, .long mbest, .ref (ad 109), .long mh]) → en1 101 = .inl (cs 1, 960, .inl (mw)) → en1 102 = .inl (cs 2, 96, .inr (.inl (mnames))) → en1 105 = .inl (cs 1, 3, .inl (mrefused)) → en1 109 = .inl (cs 1, 1300, .inl (mleft)) → (∀ j, (j < 105 ∨ 106 ≤ j) → (j < 109 ∨ 110 ≤ j) → en1 j = en j) → f_X11_learn_B53 mw mnames mrefused mleft = some q → G p l e ({ frames := 4, cells := 0, slots := 0, locals := 96 } : Room) s m args below meth c D n ad A 7 0 0 Q en1 53 [(0, .ref (ad 100))] [] := by
    intro en1 mrefused mleft e_model e_mwarr e_mnamesarr e_mrefusedarr e_mleftarr hfr h
    unfold f_X11_learn_B53 at h
    refine G_aload_n hC 0 0 rfl rfl dX11_learn_53 ?_
    obtain ⟨q54, h54, h⟩ := bnd h
    refine G_cVi (st := []) hC _ 100 (by omega) (c_X11_toldElse  l (by omega) e_model e_mrefusedarr h54) (cwV 0 hC.hts gX11_learn_X11_toldElse rfl rfl rfl (by decide +kernel) ⟨Nat.le_of_ble_eq_true rfl, Nat.le_of_ble_eq_true rfl⟩) e_model rfl rfl (Nat.le_of_ble_eq_true rfl) (Nat.zero_le _) (Nat.zero_le _) rfl dX11_learn_54 (fun r54 en2 hw => ?_)
    obtain ⟨rfl, e_mrefusedarr, fr⟩ := hw
    have e_model := (fr 100 (by omega)).trans e_model
    have e_mwarr := (fr 101 (by omega)).trans e_mwarr
    have e_mnamesarr := (fr 102 (by omega)).trans e_mnamesarr
    have e_mleftarr := (fr 109 (by omega)).trans e_mleftarr
    have hfr : ∀ j, (j < 105 ∨ 106 ≤ j) → (j < 109 ∨ 110 ≤ j) → en2 j = en j := fun j o0 o1 => (fr j (by omega)).trans (hfr j o0 o1)
    have h := Option.some.inj h
    subst h
    exact Kr _ _ _ _ (nar_i _) ⟨rfl, e_mrefusedarr, e_mleftarr, hfr⟩ dX11_learn_57
  unfold f_X11_learn at h
  have hfr : ∀ j, (j < 105 ∨ 106 ≤ j) → (j < 109 ∨ 110 ≤ j) → en j = en j := fun _ _ _ => rfl
  refine G_iload_n hC 1 1 rfl rfl dX11_learn_0 ?_
  refine G_i2l hC dX11_learn_1 ?_
  refine G_lconst hC (v := 0) (by decide) dX11_learn_2 ?_
  refine G_iconst hC (v := 1) (by decide) dX11_learn_3 ?_
  refine G_aload_n hC 0 0 rfl rfl dX11_learn_4 ?_
  refine G_get hC inX11 100 (by omega) (v := .ref (ad 101)) e_model rfl 0 (by decide) m7 rfl rfl dX11_learn_5 ?_
  refine G_iconst hC (v := 0) (by decide) dX11_learn_8 ?_
  obtain ⟨g9, h⟩ := asn h
  refine G_iald hC 101 (by omega) e_mwarr g9 dX11_learn_9 ?_
  refine G_ishl hC dX11_learn_10 ?_
  refine G_iconst hC (v := 1) (by decide) dX11_learn_11 ?_
  refine G_isub hC dX11_learn_12 ?_
  refine G_i2l hC dX11_learn_13 ?_
  obtain ⟨q14, h14, h⟩ := bnd h
  refine G_cSi (st := []) hC _ (c_X11_in  l  h14) (va_cwS 3 hC.hts gX11_learn_X11_in rfl rfl rfl (by decide +kernel) ⟨Nat.le_of_ble_eq_true rfl, Nat.le_of_ble_eq_true rfl⟩) rfl (Nat.le_of_ble_eq_true rfl) (Nat.zero_le _) (Nat.zero_le _) rfl dX11_learn_14 (fun r14 enx hw => ?_)
  obtain ⟨rfl, rfl⟩ := hw
  refine G_if_eq hC 53 dX11_learn_17 (by decide) (fun c17 => ?_) (fun c17 => ?_)
  · have h := ifp c17 h
    refine G_lv [0] rfl ?_
    exact hB53 _ _ _ e_model e_mwarr e_mnamesarr e_mrefusedarr e_mleftarr hfr h
  have h := ifn c17 h
  refine G_iload_n hC 2 2 rfl rfl dX11_learn_20 ?_
  refine G_i2l hC dX11_learn_21 ?_
  refine G_lconst hC (v := 0) (by decide) dX11_learn_22 ?_
  refine G_ldc2 hC (v := (99)) k69 dX11_learn_23 ?_
  obtain ⟨q26, h26, h⟩ := bnd h
  refine G_cSi (st := []) hC _ (c_X11_in  l  h26) (va_cwS 3 hC.hts gX11_learn_X11_in rfl rfl rfl (by decide +kernel) ⟨Nat.le_of_ble_eq_true rfl, Nat.le_of_ble_eq_true rfl⟩) rfl (Nat.le_of_ble_eq_true rfl) (Nat.zero_le _) (Nat.zero_le _) rfl dX11_learn_26 (fun r26 enx hw => ?_)
  obtain ⟨rfl, rfl⟩ := hw
  refine G_if_eq hC 53 dX11_learn_29 (by decide) (fun c29 => ?_) (fun c29 => ?_)
  · have h := ifp c29 h
    refine G_lv [0] rfl ?_
    exact hB53 _ _ _ e_model e_mwarr e_mnamesarr e_mrefusedarr e_mleftarr hfr h
  have h := ifn c29 h
  refine G_iload_n hC 3 3 rfl rfl dX11_learn_32 ?_
  refine G_iconst hC (v := (-1)) (by decide) dX11_learn_33 ?_
  refine G_icmp_eq hC 58 dX11_learn_34 (by decide) (fun c34 => ?_) (fun c34 => ?_)
  · have h := ifp c34 h
    refine G_lv [0, 1, 2, 3] rfl ?_
    exact hB58 _ _ _ _ _ _ e_model e_mwarr e_mnamesarr e_mrefusedarr e_mleftarr hfr h
  have h := ifn c34 h
  refine G_aload_n hC 0 0 rfl rfl dX11_learn_37 ?_
  refine G_iload_n hC 3 3 rfl rfl dX11_learn_38 ?_
  obtain ⟨q39, h39, h⟩ := bnd h
  refine G_cVi (st := []) hC _ 100 (by omega) (c_X11_isOne  l (by omega) e_model e_mwarr h39) (cwV 1 hC.hts gX11_learn_X11_isOne rfl rfl rfl (by decide +kernel) ⟨Nat.le_of_ble_eq_true rfl, Nat.le_of_ble_eq_true rfl⟩) e_model rfl rfl (Nat.le_of_ble_eq_true rfl) (Nat.zero_le _) (Nat.zero_le _) rfl dX11_learn_39 (fun r39 enx hw => ?_)
  obtain ⟨rfl, rfl⟩ := hw
  refine G_if_eq hC 53 dX11_learn_42 (by decide) (fun c42 => ?_) (fun c42 => ?_)
  · have h := ifp c42 h
    refine G_lv [0] rfl ?_
    exact hB53 _ _ _ e_model e_mwarr e_mnamesarr e_mrefusedarr e_mleftarr hfr h
  have h := ifn c42 h
  refine G_iload_n hC 1 1 rfl rfl dX11_learn_45 ?_
  refine G_iload_n hC 3 3 rfl rfl dX11_learn_46 ?_
  obtain ⟨q47, h47, h⟩ := bnd h
  refine G_cSi (st := []) hC _ (c_X11_holds  l  h47) (va_cwS 2 hC.hts gX11_learn_X11_holds rfl rfl rfl (by decide +kernel) ⟨Nat.le_of_ble_eq_true rfl, Nat.le_of_ble_eq_true rfl⟩) rfl (Nat.le_of_ble_eq_true rfl) (Nat.zero_le _) (Nat.zero_le _) rfl dX11_learn_47 (fun r47 enx hw => ?_)
  obtain ⟨rfl, rfl⟩ := hw
  refine G_if_ne hC 58 dX11_learn_50 (by decide) (fun c50 => ?_) (fun c50 => ?_)
  · have h := ifn c50 h
    refine G_lv [0, 1, 2, 3] rfl ?_
    exact hB58 _ _ _ _ _ _ e_model e_mwarr e_mnamesarr e_mrefusedarr e_mleftarr hfr h
  have h := ifp c50 h
  refine G_lv [0] rfl ?_
  exact hB53 _ _ _ e_model e_mwarr e_mnamesarr e_mrefusedarr e_mleftarr hfr h
def f_X11_rests_B128   (mrefused : Nat → Int32) (s0 : Int32) (s1 : Int32) : Option (Int32 × (Nat → Int32)) := some (s0 ||| s1, mrefused)
def f_X11_rests_B127   (mrefused : Nat → Int32) (s0 : Int32) : Option (Int32 × (Nat → Int32)) := f_X11_rests_B128 mrefused s0 (0 : Int32)
def f_X11_rests_B104   (mrefused : Nat → Int32) (x3 : Int32) (x4 : Int32) (x5 : Int32) (x6 : Int32) (s0 : Int32) (s1 : Int32) : Option (Int32 × (Nat → Int32)) := if x3 < x4 then (f_X11_rests_B127 mrefused (s0 ||| s1)) else (if x5 < x6 then (f_X11_rests_B127 mrefused (s0 ||| s1)) else (f_X11_rests_B128 mrefused (s0 ||| s1) (8 : Int32)))
def f_X11_rests_B87   (mrefused : Nat → Int32) (x3 : Int32) (x4 : Int32) (x5 : Int32) (x6 : Int32) (s0 : Int32) (s1 : Int32) : Option (Int32 × (Nat → Int32)) := if x6 < x5 then (f_X11_rests_B104 mrefused x3 x4 x5 x6 (s0 ||| s1) (0 : Int32)) else (f_X11_rests_B104 mrefused x3 x4 x5 x6 (s0 ||| s1) (4 : Int32))
def f_X11_rests_B72   (mrefused : Nat → Int32) (x3 : Int32) (x4 : Int32) (x5 : Int32) (x6 : Int32) (s0 : Int32) : Option (Int32 × (Nat → Int32)) := if x4 < x3 then (f_X11_rests_B87 mrefused x3 x4 x5 x6 s0 (0 : Int32)) else (f_X11_rests_B87 mrefused x3 x4 x5 x6 s0 (2 : Int32))
def f_X11_rests_B71   (mrefused : Nat → Int32) (x3 : Int32) (x4 : Int32) (x5 : Int32) (x6 : Int32) : Option (Int32 × (Nat → Int32)) := f_X11_rests_B72 mrefused x3 x4 x5 x6 (0 : Int32)
def f_X11_rests_B24   (mrefused : Nat → Int32) : Option (Int32 × (Nat → Int32)) := Option.bind (f_X11_told mrefused (-2 : Int32)) (fun q27 => some (q27.1, q27.2))
def f_X11_rests (mrefused : Nat → Int32) (x1 : Int32) (x2 : Int32) : Option (Int32 × (Nat → Int32)) := Option.bind (f_X11_in x1.toInt64 (0 : Int64) (20 : Int64)) (fun q6 => if q6 = 0 then (f_X11_rests_B24 mrefused) else (Option.bind (f_X11_in x2.toInt64 (0 : Int64) (20 : Int64)) (fun q18 => if q18 = 0 then (f_X11_rests_B24 mrefused) else (if (4 : Int32) * x2 = 0 then (if (4 : Int32) * x1 = 0 then (f_X11_rests_B72 mrefused ((4 : Int32) * x2) ((10 : Int32) * ((20 : Int32) - x2)) ((4 : Int32) * x1) ((10 : Int32) * ((20 : Int32) - x1)) (1 : Int32)) else (f_X11_rests_B71 mrefused ((4 : Int32) * x2) ((10 : Int32) * ((20 : Int32) - x2)) ((4 : Int32) * x1) ((10 : Int32) * ((20 : Int32) - x1)))) else (f_X11_rests_B71 mrefused ((4 : Int32) * x2) ((10 : Int32) * ((20 : Int32) - x2)) ((4 : Int32) * x1) ((10 : Int32) * ((20 : Int32) - x1)))))))
set_option maxHeartbeats 4000000 in
set_option maxRecDepth 100000 in
theorem c_X11_rests {D : va_G} {cs : Nat → ClassId} {sa : Nat → Nat} {n : Nat} {ad : Nat → Nat} {A : Nat → Prop} (l : Launch) {en : Nat → va_E}  {mtexted : Int32} {mundo : Int32} {mabove : Int64} {mbelow : Int64} {mrefused : Nat → Int32} {mitems : Int32} {mat : Int32} {mfault : Int32} {mtakes : Int32} {mmisses : Int64} {mbest : Int64} {mh : Int64} {x1 : Int32} {x2 : Int32}  {q : Int32 × (Nat → Int32)} (hn : 110 ≤ n) (e_model : en 100 = .inr (8, [.ref (ad 101), .ref (ad 102), .ref (ad 103), .ref (ad 104), .int mtexted, .int mundo, .long mabove, .long mbelow, .ref (ad 105), .ref (ad 106), .ref (ad 107), .ref (ad 108), .int mitems, .int mat, .int mfault, .int mtakes, .long mmisses, .long mbest, .ref (ad 109), .long mh])) (e_mrefusedarr : en 105 = .inl (cs 1, 3, .inl (mrefused))) (h : f_X11_rests mrefused x1 x2 = some q) : Met l yX11_rests wsX11_rests { frames := 1, cells := 0, slots := 0, locals := 25 } (va_Pc [.ref (ad 100), .int x1, .int x2] (Wd D cs sa n ad A en)) (va_Qi (fun r u => q.1 = r ∧ u 105 = .inl (cs 1, 3, .inl (q.2)) ∧ (∀ j, (j < 105 ∨ 106 ≤ j) → u j = en j)) (Wd D cs sa n ad A) A) 0 0 A := by
  refine G_startI cX11_rests 8 [(0, .ref (ad 100)), (1, .int x1), (2, .int x2)] (by decide) rfl (Nat.le_of_ble_eq_true rfl) rfl ?_
  intro p e s m args below meth c Q hC hnm Kr
  have k65 : Cond.constantLong RX11 65 (20) ∈ wsX11_rests := by decide +kernel
  have hB128 : ∀ (en1 : Nat → va_E) (mrefused : Nat → Int32) (s0 : Int32) (s1 : Int32), en1 100 = .inr (8, [.ref (ad 101), .ref (ad 102), .ref (ad 103), .ref (ad 104), .int mtexted, .int mundo, .long mabove, .long mbelow, .ref (ad 105), .ref (ad 106), .ref (ad 107), .ref (ad 108), .int mitems, .int mat, .int mfault, .int mtakes, .long mmisses, .long mbest, .ref (ad 109), .long mh]) → en1 105 = .inl (cs 1, 3, .inl (mrefused)) → (∀ j, (j < 105 ∨ 106 ≤ j) → en1 j = en j) → f_X11_rests_B128 mrefused s0 s1 = some q → G p l e ({ frames := 1, cells := 0, slots := 0, locals := 25 } : Room) s m args below meth c D n ad A 8 0 0 Q en1 128 [] [.int s1, .int s0] := by
    intro en1 mrefused s0 s1 e_model e_mrefusedarr hfr h
    unfold f_X11_rests_B128 at h
    refine G_ior hC dX11_rests_128 ?_
    refine G_istore hC 7 [(7, .int (s0 ||| s1))] (by decide) rfl dX11_rests_129 ?_
    refine G_iload hC 7 0 rfl dX11_rests_131 ?_
    have h := Option.some.inj h
    subst h
    exact Kr _ _ _ _ (nar_i _) ⟨rfl, e_mrefusedarr, hfr⟩ dX11_rests_133
  have hB127 : ∀ (en1 : Nat → va_E) (mrefused : Nat → Int32) (s0 : Int32), en1 100 = .inr (8, [.ref (ad 101), .ref (ad 102), .ref (ad 103), .ref (ad 104), .int mtexted, .int mundo, .long mabove, .long mbelow, .ref (ad 105), .ref (ad 106), .ref (ad 107), .ref (ad 108), .int mitems, .int mat, .int mfault, .int mtakes, .long mmisses, .long mbest, .ref (ad 109), .long mh]) → en1 105 = .inl (cs 1, 3, .inl (mrefused)) → (∀ j, (j < 105 ∨ 106 ≤ j) → en1 j = en j) → f_X11_rests_B127 mrefused s0 = some q → G p l e ({ frames := 1, cells := 0, slots := 0, locals := 25 } : Room) s m args below meth c D n ad A 8 0 0 Q en1 127 [] [.int s0] := by
    intro en1 mrefused s0 e_model e_mrefusedarr hfr h
    unfold f_X11_rests_B127 at h
    refine G_iconst hC (v := 0) (by decide) dX11_rests_127 ?_
    refine G_lv [] rfl ?_
    exact hB128 _ _ _ _ e_model e_mrefusedarr hfr h
  have hB104 : ∀ (en1 : Nat → va_E) (mrefused : Nat → Int32) (x3 : Int32) (x4 : Int32) (x5 : Int32) (x6 : Int32) (s0 : Int32) (s1 : Int32), en1 100 = .inr (8, [.ref (ad 101), .ref (ad 102), .ref (ad 103), .ref (ad 104), .int mtexted, .int mundo, .long mabove, .long mbelow, .ref (ad 105), .ref (ad 106), .ref (ad 107), .ref (ad 108), .int mitems, .int mat, .int mfault, .int mtakes, .long mmisses, .long mbest, .ref (ad 109), .long mh]) → en1 105 = .inl (cs 1, 3, .inl (mrefused)) → (∀ j, (j < 105 ∨ 106 ≤ j) → en1 j = en j) → f_X11_rests_B104 mrefused x3 x4 x5 x6 s0 s1 = some q → G p l e ({ frames := 1, cells := 0, slots := 0, locals := 25 } : Room) s m args below meth c D n ad A 8 0 0 Q en1 104 [(3, .int x3), (4, .int x4), (5, .int x5), (6, .int x6)] [.int s1, .int s0] := by
    intro en1 mrefused x3 x4 x5 x6 s0 s1 e_model e_mrefusedarr hfr h
    unfold f_X11_rests_B104 at h
    refine G_ior hC dX11_rests_104 ?_
    refine G_istore hC 7 [(7, .int (s0 ||| s1)), (3, .int x3), (4, .int x4), (5, .int x5), (6, .int x6)] (by decide) rfl dX11_rests_105 ?_
    refine G_iload hC 7 0 rfl dX11_rests_107 ?_
    refine G_iload hC 4 2 rfl dX11_rests_109 ?_
    refine G_iload_n hC 3 1 rfl rfl dX11_rests_111 ?_
    refine G_icmp_gt hC 127 dX11_rests_112 (by decide) (fun c112 => ?_) (fun c112 => ?_)
    · have h := ifp c112 h
      refine G_lv [] rfl ?_
      exact hB127 _ _ _ e_model e_mrefusedarr hfr h
    have h := ifn c112 h
    refine G_iload hC 6 4 rfl dX11_rests_115 ?_
    refine G_iload hC 5 3 rfl dX11_rests_117 ?_
    refine G_icmp_gt hC 127 dX11_rests_119 (by decide) (fun c119 => ?_) (fun c119 => ?_)
    · have h := ifp c119 h
      refine G_lv [] rfl ?_
      exact hB127 _ _ _ e_model e_mrefusedarr hfr h
    have h := ifn c119 h
    refine G_bipush hC (v := 8) (by decide) dX11_rests_122 ?_
    refine G_goto hC 128 dX11_rests_124 (by decide) ?_
    refine G_lv [] rfl ?_
    exact hB128 _ _ _ _ e_model e_mrefusedarr hfr h
  have hB87 : ∀ (en1 : Nat → va_E) (mrefused : Nat → Int32) (x3 : Int32) (x4 : Int32) (x5 : Int32) (x6 : Int32) (s0 : Int32) (s1 : Int32), en1 100 = .inr (8, [.ref (ad 101), .ref (ad 102), .ref (ad 103), .ref (ad 104), .int mtexted, .int mundo, .long mabove, .long mbelow, .ref (ad 105), .ref (ad 106), .ref (ad 107), .ref (ad 108), .int mitems, .int mat, .int mfault, .int mtakes, .long mmisses, .long mbest, .ref (ad 109), .long mh]) → en1 105 = .inl (cs 1, 3, .inl (mrefused)) → (∀ j, (j < 105 ∨ 106 ≤ j) → en1 j = en j) → f_X11_rests_B87 mrefused x3 x4 x5 x6 s0 s1 = some q → G p l e ({ frames := 1, cells := 0, slots := 0, locals := 25 } : Room) s m args below meth c D n ad A 8 0 0 Q en1 87 [(3, .int x3), (4, .int x4), (5, .int x5), (6, .int x6)] [.int s1, .int s0] := by
    intro en1 mrefused x3 x4 x5 x6 s0 s1 e_model e_mrefusedarr hfr h
    unfold f_X11_rests_B87 at h
    refine G_ior hC dX11_rests_87 ?_
    refine G_istore hC 7 [(7, .int (s0 ||| s1)), (3, .int x3), (4, .int x4), (5, .int x5), (6, .int x6)] (by decide) rfl dX11_rests_88 ?_
    refine G_iload hC 7 0 rfl dX11_rests_90 ?_
    refine G_iload hC 5 3 rfl dX11_rests_92 ?_
    refine G_iload hC 6 4 rfl dX11_rests_94 ?_
    refine G_icmp_gt hC 103 dX11_rests_96 (by decide) (fun c96 => ?_) (fun c96 => ?_)
    · have h := ifp c96 h
      refine G_iconst hC (v := 0) (by decide) dX11_rests_103 ?_
      refine G_lv [1, 2, 3, 4] rfl ?_
      exact hB104 _ _ _ _ _ _ _ _ e_model e_mrefusedarr hfr h
    have h := ifn c96 h
    refine G_iconst hC (v := 4) (by decide) dX11_rests_99 ?_
    refine G_goto hC 104 dX11_rests_100 (by decide) ?_
    refine G_lv [1, 2, 3, 4] rfl ?_
    exact hB104 _ _ _ _ _ _ _ _ e_model e_mrefusedarr hfr h
  have hB72 : ∀ (en1 : Nat → va_E) (mrefused : Nat → Int32) (x3 : Int32) (x4 : Int32) (x5 : Int32) (x6 : Int32) (s0 : Int32), en1 100 = .inr (8, [.ref (ad 101), .ref (ad 102), .ref (ad 103), .ref (ad 104), .int mtexted, .int mundo, .long mabove, .long mbelow, .ref (ad 105), .ref (ad 106), .ref (ad 107), .ref (ad 108), .int mitems, .int mat, .int mfault, .int mtakes, .long mmisses, .long mbest, .ref (ad 109), .long mh]) → en1 105 = .inl (cs 1, 3, .inl (mrefused)) → (∀ j, (j < 105 ∨ 106 ≤ j) → en1 j = en j) → f_X11_rests_B72 mrefused x3 x4 x5 x6 s0 = some q → G p l e ({ frames := 1, cells := 0, slots := 0, locals := 25 } : Room) s m args below meth c D n ad A 8 0 0 Q en1 72 [(3, .int x3), (4, .int x4), (5, .int x5), (6, .int x6)] [.int s0] := by
    intro en1 mrefused x3 x4 x5 x6 s0 e_model e_mrefusedarr hfr h
    unfold f_X11_rests_B72 at h
    refine G_istore hC 7 [(7, .int s0), (3, .int x3), (4, .int x4), (5, .int x5), (6, .int x6)] (by decide) rfl dX11_rests_72 ?_
    refine G_iload hC 7 0 rfl dX11_rests_74 ?_
    refine G_iload_n hC 3 1 rfl rfl dX11_rests_76 ?_
    refine G_iload hC 4 2 rfl dX11_rests_77 ?_
    refine G_icmp_gt hC 86 dX11_rests_79 (by decide) (fun c79 => ?_) (fun c79 => ?_)
    · have h := ifp c79 h
      refine G_iconst hC (v := 0) (by decide) dX11_rests_86 ?_
      refine G_lv [1, 2, 3, 4] rfl ?_
      exact hB87 _ _ _ _ _ _ _ _ e_model e_mrefusedarr hfr h
    have h := ifn c79 h
    refine G_iconst hC (v := 2) (by decide) dX11_rests_82 ?_
    refine G_goto hC 87 dX11_rests_83 (by decide) ?_
    refine G_lv [1, 2, 3, 4] rfl ?_
    exact hB87 _ _ _ _ _ _ _ _ e_model e_mrefusedarr hfr h
  have hB71 : ∀ (en1 : Nat → va_E) (mrefused : Nat → Int32) (x3 : Int32) (x4 : Int32) (x5 : Int32) (x6 : Int32), en1 100 = .inr (8, [.ref (ad 101), .ref (ad 102), .ref (ad 103), .ref (ad 104), .int mtexted, .int mundo, .long mabove, .long mbelow, .ref (ad 105), .ref (ad 106), .ref (ad 107), .ref (ad 108), .int mitems, .int mat, .int mfault, .int mtakes, .long mmisses, .long mbest, .ref (ad 109), .long mh]) → en1 105 = .inl (cs 1, 3, .inl (mrefused)) → (∀ j, (j < 105 ∨ 106 ≤ j) → en1 j = en j) → f_X11_rests_B71 mrefused x3 x4 x5 x6 = some q → G p l e ({ frames := 1, cells := 0, slots := 0, locals := 25 } : Room) s m args below meth c D n ad A 8 0 0 Q en1 71 [(3, .int x3), (4, .int x4), (5, .int x5), (6, .int x6)] [] := by
    intro en1 mrefused x3 x4 x5 x6 e_model e_mrefusedarr hfr h
    unfold f_X11_rests_B71 at h
    refine G_iconst hC (v := 0) (by decide) dX11_rests_71 ?_
    refine G_lv [0, 1, 2, 3] rfl ?_
    exact hB72 _ _ _ _ _ _ _ e_model e_mrefusedarr hfr h
  have hB24 : ∀ (en1 : Nat → va_E) (mrefused : Nat → Int32), en1 100 = .inr (8, [.ref (ad 101), .ref (ad 102), .ref (ad 103), .ref (ad 104), .int mtexted, .int mundo, .long mabove, .long mbelow, .ref (ad 105), .ref (ad 106), .ref (ad 107), .ref (ad 108), .int mitems, .int mat, .int mfault, .int mtakes, .long mmisses, .long mbest, .ref (ad 109), .long mh]) → en1 105 = .inl (cs 1, 3, .inl (mrefused)) → (∀ j, (j < 105 ∨ 106 ≤ j) → en1 j = en j) → f_X11_rests_B24 mrefused = some q → G p l e ({ frames := 1, cells := 0, slots := 0, locals := 25 } : Room) s m args below meth c D n ad A 8 0 0 Q en1 24 [(0, .ref (ad 100))] [] := by
    intro en1 mrefused e_model e_mrefusedarr hfr h
    unfold f_X11_rests_B24 at h
    refine G_aload_n hC 0 0 rfl rfl dX11_rests_24 ?_
    refine G_bipush hC (v := (-2)) (by decide) dX11_rests_25 ?_
    obtain ⟨q27, h27, h⟩ := bnd h
    refine G_cVi (st := []) hC _ 100 (by omega) (c_X11_told  l (by omega) e_model e_mrefusedarr h27) (cwV 1 hC.hts gX11_rests_X11_told rfl rfl rfl (by decide +kernel) ⟨Nat.le_of_ble_eq_true rfl, Nat.le_of_ble_eq_true rfl⟩) e_model rfl rfl (Nat.le_of_ble_eq_true rfl) (Nat.zero_le _) (Nat.zero_le _) rfl dX11_rests_27 (fun r27 en2 hw => ?_)
    obtain ⟨rfl, e_mrefusedarr, fr⟩ := hw
    have e_model := (fr 100 (by omega)).trans e_model
    have hfr : ∀ j, (j < 105 ∨ 106 ≤ j) → en2 j = en j := fun j o0 => (fr j (by omega)).trans (hfr j o0)
    have h := Option.some.inj h
    subst h
    exact Kr _ _ _ _ (nar_i _) ⟨rfl, e_mrefusedarr, hfr⟩ dX11_rests_30
  unfold f_X11_rests at h
  have hfr : ∀ j, (j < 105 ∨ 106 ≤ j) → en j = en j := fun _ _ => rfl
  refine G_iload_n hC 1 1 rfl rfl dX11_rests_0 ?_
  refine G_i2l hC dX11_rests_1 ?_
  refine G_lconst hC (v := 0) (by decide) dX11_rests_2 ?_
  refine G_ldc2 hC (v := (20)) k65 dX11_rests_3 ?_
  obtain ⟨q6, h6, h⟩ := bnd h
  refine G_cSi (st := []) hC _ (c_X11_in  l  h6) (va_cwS 3 hC.hts gX11_rests_X11_in rfl rfl rfl (by decide +kernel) ⟨Nat.le_of_ble_eq_true rfl, Nat.le_of_ble_eq_true rfl⟩) rfl (Nat.le_of_ble_eq_true rfl) (Nat.zero_le _) (Nat.zero_le _) rfl dX11_rests_6 (fun r6 enx hw => ?_)
  obtain ⟨rfl, rfl⟩ := hw
  refine G_if_eq hC 24 dX11_rests_9 (by decide) (fun c9 => ?_) (fun c9 => ?_)
  · have h := ifp c9 h
    refine G_lv [0] rfl ?_
    exact hB24 _ _ e_model e_mrefusedarr hfr h
  have h := ifn c9 h
  refine G_iload_n hC 2 2 rfl rfl dX11_rests_12 ?_
  refine G_i2l hC dX11_rests_13 ?_
  refine G_lconst hC (v := 0) (by decide) dX11_rests_14 ?_
  refine G_ldc2 hC (v := (20)) k65 dX11_rests_15 ?_
  obtain ⟨q18, h18, h⟩ := bnd h
  refine G_cSi (st := []) hC _ (c_X11_in  l  h18) (va_cwS 3 hC.hts gX11_rests_X11_in rfl rfl rfl (by decide +kernel) ⟨Nat.le_of_ble_eq_true rfl, Nat.le_of_ble_eq_true rfl⟩) rfl (Nat.le_of_ble_eq_true rfl) (Nat.zero_le _) (Nat.zero_le _) rfl dX11_rests_18 (fun r18 enx hw => ?_)
  obtain ⟨rfl, rfl⟩ := hw
  refine G_if_ne hC 31 dX11_rests_21 (by decide) (fun c21 => ?_) (fun c21 => ?_)
  · have h := ifn c21 h
    refine G_iconst hC (v := 4) (by decide) dX11_rests_31 ?_
    refine G_iload_n hC 2 2 rfl rfl dX11_rests_32 ?_
    refine G_imul hC dX11_rests_33 ?_
    refine G_istore_n hC 3 [(3, .int ((4 : Int32) * x2)), (0, .ref (ad 100)), (1, .int x1), (2, .int x2)] rfl (by decide) rfl dX11_rests_34 ?_
    refine G_bipush hC (v := 10) (by decide) dX11_rests_35 ?_
    refine G_bipush hC (v := 20) (by decide) dX11_rests_37 ?_
    refine G_iload_n hC 2 3 rfl rfl dX11_rests_39 ?_
    refine G_isub hC dX11_rests_40 ?_
    refine G_imul hC dX11_rests_41 ?_
    refine G_istore hC 4 [(4, .int ((10 : Int32) * ((20 : Int32) - x2))), (3, .int ((4 : Int32) * x2)), (0, .ref (ad 100)), (1, .int x1), (2, .int x2)] (by decide) rfl dX11_rests_42 ?_
    refine G_iconst hC (v := 4) (by decide) dX11_rests_44 ?_
    refine G_iload_n hC 1 3 rfl rfl dX11_rests_45 ?_
    refine G_imul hC dX11_rests_46 ?_
    refine G_istore hC 5 [(5, .int ((4 : Int32) * x1)), (4, .int ((10 : Int32) * ((20 : Int32) - x2))), (3, .int ((4 : Int32) * x2)), (0, .ref (ad 100)), (1, .int x1), (2, .int x2)] (by decide) rfl dX11_rests_47 ?_
    refine G_bipush hC (v := 10) (by decide) dX11_rests_49 ?_
    refine G_bipush hC (v := 20) (by decide) dX11_rests_51 ?_
    refine G_iload_n hC 1 4 rfl rfl dX11_rests_53 ?_
    refine G_isub hC dX11_rests_54 ?_
    refine G_imul hC dX11_rests_55 ?_
    refine G_istore hC 6 [(6, .int ((10 : Int32) * ((20 : Int32) - x1))), (5, .int ((4 : Int32) * x1)), (4, .int ((10 : Int32) * ((20 : Int32) - x2))), (3, .int ((4 : Int32) * x2)), (0, .ref (ad 100)), (1, .int x1), (2, .int x2)] (by decide) rfl dX11_rests_56 ?_
    refine G_iload_n hC 3 3 rfl rfl dX11_rests_58 ?_
    refine G_if_ne hC 71 dX11_rests_59 (by decide) (fun c59 => ?_) (fun c59 => ?_)
    · have h := ifn c59 h
      refine G_lv [3, 2, 1, 0] rfl ?_
      exact hB71 _ _ _ _ _ _ e_model e_mrefusedarr hfr h
    have h := ifp c59 h
    refine G_iload hC 5 1 rfl dX11_rests_62 ?_
    refine G_if_ne hC 71 dX11_rests_64 (by decide) (fun c64 => ?_) (fun c64 => ?_)
    · have h := ifn c64 h
      refine G_lv [3, 2, 1, 0] rfl ?_
      exact hB71 _ _ _ _ _ _ e_model e_mrefusedarr hfr h
    have h := ifp c64 h
    refine G_iconst hC (v := 1) (by decide) dX11_rests_67 ?_
    refine G_goto hC 72 dX11_rests_68 (by decide) ?_
    refine G_lv [3, 2, 1, 0] rfl ?_
    exact hB72 _ _ _ _ _ _ _ e_model e_mrefusedarr hfr h
  have h := ifp c21 h
  refine G_lv [0] rfl ?_
  exact hB24 _ _ e_model e_mrefusedarr hfr h
def f_X11_part (mabove : Int64) (mbelow : Int64) (mrefused : Nat → Int32) (x1 : Int32) : Option (Int64 × (Nat → Int32)) := if x1 = 0 then (some (mabove, mrefused)) else (if x1 = (1 : Int32) then (some (mbelow, mrefused)) else (Option.bind (f_X11_told mrefused (-2 : Int32)) (fun q26 => some (q26.1.toInt64, q26.2))))
set_option maxHeartbeats 4000000 in
set_option maxRecDepth 100000 in
theorem c_X11_part {D : va_G} {cs : Nat → ClassId} {sa : Nat → Nat} {n : Nat} {ad : Nat → Nat} {A : Nat → Prop} (l : Launch) {en : Nat → va_E}  {mtexted : Int32} {mundo : Int32} {mabove : Int64} {mbelow : Int64} {mrefused : Nat → Int32} {mitems : Int32} {mat : Int32} {mfault : Int32} {mtakes : Int32} {mmisses : Int64} {mbest : Int64} {mh : Int64} {x1 : Int32}  {q : Int64 × (Nat → Int32)} (hn : 110 ≤ n) (e_model : en 100 = .inr (8, [.ref (ad 101), .ref (ad 102), .ref (ad 103), .ref (ad 104), .int mtexted, .int mundo, .long mabove, .long mbelow, .ref (ad 105), .ref (ad 106), .ref (ad 107), .ref (ad 108), .int mitems, .int mat, .int mfault, .int mtakes, .long mmisses, .long mbest, .ref (ad 109), .long mh])) (e_mrefusedarr : en 105 = .inl (cs 1, 3, .inl (mrefused))) (h : f_X11_part mabove mbelow mrefused x1 = some q) : Met l yX11_part wsX11_part { frames := 1, cells := 0, slots := 0, locals := 21 } (va_Pc [.ref (ad 100), .int x1] (Wd D cs sa n ad A en)) (va_Ql (fun r u => q.1 = r ∧ u 105 = .inl (cs 1, 3, .inl (q.2)) ∧ (∀ j, (j < 105 ∨ 106 ≤ j) → u j = en j)) (Wd D cs sa n ad A) A) 0 0 A := by
  refine G_startL cX11_part 2 [(0, .ref (ad 100)), (1, .int x1)] (by decide) rfl (Nat.le_of_ble_eq_true rfl) rfl ?_
  intro p e s m args below meth c Q hC hnm Kr
  have inX11 : ∀ w ∈ u_ws RX11 TX11 20, w ∈ wsX11_part := by decide +kernel
  have m201 : Cond.fieldLink RX11 201 "TongueTipModel" "above" "J" ∈ wsX11_part := by decide +kernel
  have m24 : Cond.fieldLink RX11 24 "TongueTipModel" "below" "J" ∈ wsX11_part := by decide +kernel
  unfold f_X11_part at h
  have hfr : ∀ j, (j < 105 ∨ 106 ≤ j) → en j = en j := fun _ _ => rfl
  refine G_iload_n hC 1 1 rfl rfl dX11_part_0 ?_
  refine G_if_ne hC 11 dX11_part_1 (by decide) (fun c1 => ?_) (fun c1 => ?_)
  · have h := ifn c1 h
    refine G_iload_n hC 1 1 rfl rfl dX11_part_11 ?_
    refine G_iconst hC (v := 1) (by decide) dX11_part_12 ?_
    refine G_icmp_ne hC 23 dX11_part_13 (by decide) (fun c13 => ?_) (fun c13 => ?_)
    · have h := ifn c13 h
      refine G_aload_n hC 0 0 rfl rfl dX11_part_23 ?_
      refine G_bipush hC (v := (-2)) (by decide) dX11_part_24 ?_
      obtain ⟨q26, h26, h⟩ := bnd h
      refine G_cVi (st := []) hC _ 100 (by omega) (c_X11_told  l (by omega) e_model e_mrefusedarr h26) (cwV 1 hC.hts gX11_part_X11_told rfl rfl rfl (by decide +kernel) ⟨Nat.le_of_ble_eq_true rfl, Nat.le_of_ble_eq_true rfl⟩) e_model rfl rfl (Nat.le_of_ble_eq_true rfl) (Nat.zero_le _) (Nat.zero_le _) rfl dX11_part_26 (fun r26 en2 hw => ?_)
      obtain ⟨rfl, e_mrefusedarr, fr⟩ := hw
      have e_model := (fr 100 (by omega)).trans e_model
      have hfr : ∀ j, (j < 105 ∨ 106 ≤ j) → en2 j = en j := fun j o0 => (fr j (by omega)).trans (hfr j o0)
      refine G_i2l hC dX11_part_29 ?_
      have h := Option.some.inj h
      subst h
      exact Kr _ _ _ _ ⟨rfl, e_mrefusedarr, hfr⟩ dX11_part_30
    have h := ifp c13 h
    refine G_aload_n hC 0 0 rfl rfl dX11_part_16 ?_
    refine G_get hC inX11 100 (by omega) (v := .long mbelow) e_model rfl 7 (by decide) m24 rfl rfl dX11_part_17 ?_
    refine G_goto hC 30 dX11_part_20 (by decide) ?_
    have h := Option.some.inj h
    subst h
    exact Kr _ _ _ _ ⟨rfl, e_mrefusedarr, hfr⟩ dX11_part_30
  have h := ifp c1 h
  refine G_aload_n hC 0 0 rfl rfl dX11_part_4 ?_
  refine G_get hC inX11 100 (by omega) (v := .long mabove) e_model rfl 6 (by decide) m201 rfl rfl dX11_part_5 ?_
  refine G_goto hC 30 dX11_part_8 (by decide) ?_
  have h := Option.some.inj h
  subst h
  exact Kr _ _ _ _ ⟨rfl, e_mrefusedarr, hfr⟩ dX11_part_30
def f_X11_image (mw : Nat → Int32) (mnames : Nat → Int64) (mkept : Nat → Int32) (mrefused : Nat → Int32) (x1 : Int32) : Option (Int32 × (Nat → Int32) × (Nat → Int64) × (Nat → Int32) × (Nat → Int32)) := Option.bind (f_X11_in x1.toInt64 (0 : Int64) (1 : Int64)) (fun q4 => if q4 = 0 then (Option.bind (f_X11_told mrefused (-2 : Int32)) (fun q13 => some (q13.1, mw, mnames, mkept, q13.2))) else (Option.bind (f_X11_copy mw mnames (0 : Int32) ((120 : Int32) * ((1 : Int32) + x1))) (fun q25 => if x1 < 0 ∨ 2 ≤ x1.toNatClampNeg then none else (some ((1 : Int32), q25.1, q25.2, upd mkept x1.toNatClampNeg (vp_nar .boolean (1 : Int32)), mrefused)))))
set_option maxHeartbeats 4000000 in
set_option maxRecDepth 100000 in
theorem c_X11_image {D : va_G} {cs : Nat → ClassId} {sa : Nat → Nat} {n : Nat} {ad : Nat → Nat} {A : Nat → Prop} (l : Launch) {en : Nat → va_E}  {mw : Nat → Int32} {mnames : Nat → Int64} {mkept : Nat → Int32} {mtexted : Int32} {mundo : Int32} {mabove : Int64} {mbelow : Int64} {mrefused : Nat → Int32} {mitems : Int32} {mat : Int32} {mfault : Int32} {mtakes : Int32} {mmisses : Int64} {mbest : Int64} {mh : Int64} {x1 : Int32}  {q : Int32 × (Nat → Int32) × (Nat → Int64) × (Nat → Int32) × (Nat → Int32)} (hn : 110 ≤ n) (e_model : en 100 = .inr (8, [.ref (ad 101), .ref (ad 102), .ref (ad 103), .ref (ad 104), .int mtexted, .int mundo, .long mabove, .long mbelow, .ref (ad 105), .ref (ad 106), .ref (ad 107), .ref (ad 108), .int mitems, .int mat, .int mfault, .int mtakes, .long mmisses, .long mbest, .ref (ad 109), .long mh])) (e_mwarr : en 101 = .inl (cs 1, 960, .inl (mw))) (e_mnamesarr : en 102 = .inl (cs 2, 96, .inr (.inl (mnames)))) (e_mkeptarr : en 103 = .inl (cs 3, 2, .inl (mkept))) (e_mrefusedarr : en 105 = .inl (cs 1, 3, .inl (mrefused))) (h : f_X11_image mw mnames mkept mrefused x1 = some q) : Met l yX11_image wsX11_image { frames := 1, cells := 0, slots := 0, locals := 25 } (va_Pc [.ref (ad 100), .int x1] (Wd D cs sa n ad A en)) (va_Qi (fun r u => q.1 = r ∧ u 101 = .inl (cs 1, 960, .inl (q.2.1)) ∧ u 102 = .inl (cs 2, 96, .inr (.inl (q.2.2.1))) ∧ u 103 = .inl (cs 3, 2, .inl (q.2.2.2.1)) ∧ u 105 = .inl (cs 1, 3, .inl (q.2.2.2.2)) ∧ (∀ j, (j < 101 ∨ 102 ≤ j) → (j < 102 ∨ 103 ≤ j) → (j < 103 ∨ 104 ≤ j) → (j < 105 ∨ 106 ≤ j) → u j = en j)) (Wd D cs sa n ad A) A) 0 0 A := by
  refine G_startI cX11_image 2 [(0, .ref (ad 100)), (1, .int x1)] (by decide) rfl (Nat.le_of_ble_eq_true rfl) rfl ?_
  intro p e s m args below meth c Q hC hnm Kr
  have inX11 : ∀ w ∈ u_ws RX11 TX11 20, w ∈ wsX11_image := by decide +kernel
  have m17 : Cond.fieldLink RX11 17 "TongueTipModel" "isKept" "[Z" ∈ wsX11_image := by decide +kernel
  unfold f_X11_image at h
  have hfr : ∀ j, (j < 101 ∨ 102 ≤ j) → (j < 102 ∨ 103 ≤ j) → (j < 103 ∨ 104 ≤ j) → (j < 105 ∨ 106 ≤ j) → en j = en j := fun _ _ _ _ _ => rfl
  refine G_iload_n hC 1 1 rfl rfl dX11_image_0 ?_
  refine G_i2l hC dX11_image_1 ?_
  refine G_lconst hC (v := 0) (by decide) dX11_image_2 ?_
  refine G_lconst hC (v := 1) (by decide) dX11_image_3 ?_
  obtain ⟨q4, h4, h⟩ := bnd h
  refine G_cSi (st := []) hC _ (c_X11_in  l  h4) (va_cwS 3 hC.hts gX11_image_X11_in rfl rfl rfl (by decide +kernel) ⟨Nat.le_of_ble_eq_true rfl, Nat.le_of_ble_eq_true rfl⟩) rfl (Nat.le_of_ble_eq_true rfl) (Nat.zero_le _) (Nat.zero_le _) rfl dX11_image_4 (fun r4 enx hw => ?_)
  obtain ⟨rfl, rfl⟩ := hw
  refine G_if_ne hC 17 dX11_image_7 (by decide) (fun c7 => ?_) (fun c7 => ?_)
  · have h := ifn c7 h
    refine G_aload_n hC 0 0 rfl rfl dX11_image_17 ?_
    refine G_iconst hC (v := 0) (by decide) dX11_image_18 ?_
    refine G_bipush hC (v := 120) (by decide) dX11_image_19 ?_
    refine G_iconst hC (v := 1) (by decide) dX11_image_21 ?_
    refine G_iload_n hC 1 1 rfl rfl dX11_image_22 ?_
    refine G_iadd hC dX11_image_23 ?_
    refine G_imul hC dX11_image_24 ?_
    obtain ⟨q25, h25, h⟩ := bnd h
    refine G_cVv (st := []) hC _ 100 (by omega) (c_X11_copy  l (by omega) e_model e_mwarr e_mnamesarr h25) (cwV 2 hC.hts gX11_image_X11_copy rfl rfl rfl (by decide +kernel) ⟨Nat.le_of_ble_eq_true rfl, Nat.le_of_ble_eq_true rfl⟩) e_model rfl rfl (Nat.le_of_ble_eq_true rfl) (Nat.zero_le _) (Nat.zero_le _) rfl dX11_image_25 (fun en2 hw => ?_)
    obtain ⟨e_mwarr, e_mnamesarr, fr⟩ := hw
    have e_model := (fr 100 (by omega) (by omega)).trans e_model
    have e_mkeptarr := (fr 103 (by omega) (by omega)).trans e_mkeptarr
    have e_mrefusedarr := (fr 105 (by omega) (by omega)).trans e_mrefusedarr
    have hfr : ∀ j, (j < 101 ∨ 102 ≤ j) → (j < 102 ∨ 103 ≤ j) → (j < 103 ∨ 104 ≤ j) → (j < 105 ∨ 106 ≤ j) → en2 j = en j := fun j o0 o1 o2 o3 => (fr j (by omega) (by omega)).trans (hfr j o0 o1 o2 o3)
    refine G_aload_n hC 0 0 rfl rfl dX11_image_28 ?_
    refine G_get hC inX11 100 (by omega) (v := .ref (ad 103)) e_model rfl 2 (by decide) m17 rfl rfl dX11_image_29 ?_
    refine G_iload_n hC 1 1 rfl rfl dX11_image_32 ?_
    refine G_iconst hC (v := 1) (by decide) dX11_image_33 ?_
    obtain ⟨g34, h⟩ := asn h
    refine G_zast hC 103 (by omega) e_mkeptarr g34 dX11_image_34 (fun en3 e_mkeptarr fr => ?_)
    have e_mkeptarr : en3 103 = .inl (cs 3, 2, .inl (upd mkept x1.toNatClampNeg (vp_nar .boolean (1 : Int32)))) := e_mkeptarr
    have e_model := (fr 100 (by omega)).trans e_model
    have e_mwarr := (fr 101 (by omega)).trans e_mwarr
    have e_mnamesarr := (fr 102 (by omega)).trans e_mnamesarr
    have e_mrefusedarr := (fr 105 (by omega)).trans e_mrefusedarr
    have hfr : ∀ j, (j < 101 ∨ 102 ≤ j) → (j < 102 ∨ 103 ≤ j) → (j < 103 ∨ 104 ≤ j) → (j < 105 ∨ 106 ≤ j) → en3 j = en j := fun j o0 o1 o2 o3 => (fr j (by omega)).trans (hfr j o0 o1 o2 o3)
    refine G_iconst hC (v := 1) (by decide) dX11_image_35 ?_
    have h := Option.some.inj h
    subst h
    exact Kr _ _ _ _ (nar_i _) ⟨rfl, e_mwarr, e_mnamesarr, e_mkeptarr, e_mrefusedarr, hfr⟩ dX11_image_36
  have h := ifp c7 h
  refine G_aload_n hC 0 0 rfl rfl dX11_image_10 ?_
  refine G_bipush hC (v := (-2)) (by decide) dX11_image_11 ?_
  obtain ⟨q13, h13, h⟩ := bnd h
  refine G_cVi (st := []) hC _ 100 (by omega) (c_X11_told  l (by omega) e_model e_mrefusedarr h13) (cwV 1 hC.hts gX11_image_X11_told rfl rfl rfl (by decide +kernel) ⟨Nat.le_of_ble_eq_true rfl, Nat.le_of_ble_eq_true rfl⟩) e_model rfl rfl (Nat.le_of_ble_eq_true rfl) (Nat.zero_le _) (Nat.zero_le _) rfl dX11_image_13 (fun r13 en4 hw => ?_)
  obtain ⟨rfl, e_mrefusedarr, fr⟩ := hw
  have e_model := (fr 100 (by omega)).trans e_model
  have e_mwarr := (fr 101 (by omega)).trans e_mwarr
  have e_mnamesarr := (fr 102 (by omega)).trans e_mnamesarr
  have e_mkeptarr := (fr 103 (by omega)).trans e_mkeptarr
  have hfr : ∀ j, (j < 101 ∨ 102 ≤ j) → (j < 102 ∨ 103 ≤ j) → (j < 103 ∨ 104 ≤ j) → (j < 105 ∨ 106 ≤ j) → en4 j = en j := fun j o0 o1 o2 o3 => (fr j (by omega)).trans (hfr j o0 o1 o2 o3)
  have h := Option.some.inj h
  subst h
  exact Kr _ _ _ _ (nar_i _) ⟨rfl, e_mwarr, e_mnamesarr, e_mkeptarr, e_mrefusedarr, hfr⟩ dX11_image_16
def f_X11_from (mw : Nat → Int32) (mnames : Nat → Int64) (mkept : Nat → Int32) (mundo : Int32) (mrefused : Nat → Int32) (x1 : Int32) : Option (Int32 × (Nat → Int32) × (Nat → Int64) × Int32 × (Nat → Int32)) := Option.bind (f_X11_in x1.toInt64 (0 : Int64) (1 : Int64)) (fun q4 => if q4 = 0 then (Option.bind (f_X11_told mrefused (-2 : Int32)) (fun q13 => some (q13.1, mw, mnames, mundo, q13.2))) else (if x1 < 0 ∨ 2 ≤ x1.toNatClampNeg then none else (if mkept x1.toNatClampNeg = 0 then (Option.bind (f_X11_told mrefused (-3 : Int32)) (fun q29 => some (q29.1, mw, mnames, mundo, q29.2))) else (Option.bind (f_X11_copy mw mnames ((120 : Int32) * ((1 : Int32) + x1)) (0 : Int32)) (fun q41 => some ((1 : Int32), q41.1, q41.2, (0 : Int32), mrefused))))))
set_option maxHeartbeats 4000000 in
set_option maxRecDepth 100000 in
theorem c_X11_from {D : va_G} {cs : Nat → ClassId} {sa : Nat → Nat} {n : Nat} {ad : Nat → Nat} {A : Nat → Prop} (l : Launch) {en : Nat → va_E}  {mw : Nat → Int32} {mnames : Nat → Int64} {mkept : Nat → Int32} {mtexted : Int32} {mundo : Int32} {mabove : Int64} {mbelow : Int64} {mrefused : Nat → Int32} {mitems : Int32} {mat : Int32} {mfault : Int32} {mtakes : Int32} {mmisses : Int64} {mbest : Int64} {mh : Int64} {x1 : Int32}  {q : Int32 × (Nat → Int32) × (Nat → Int64) × Int32 × (Nat → Int32)} (hn : 110 ≤ n) (e_model : en 100 = .inr (8, [.ref (ad 101), .ref (ad 102), .ref (ad 103), .ref (ad 104), .int mtexted, .int mundo, .long mabove, .long mbelow, .ref (ad 105), .ref (ad 106), .ref (ad 107), .ref (ad 108), .int mitems, .int mat, .int mfault, .int mtakes, .long mmisses, .long mbest, .ref (ad 109), .long mh])) (e_mwarr : en 101 = .inl (cs 1, 960, .inl (mw))) (e_mnamesarr : en 102 = .inl (cs 2, 96, .inr (.inl (mnames)))) (e_mkeptarr : en 103 = .inl (cs 3, 2, .inl (mkept))) (e_mrefusedarr : en 105 = .inl (cs 1, 3, .inl (mrefused))) (h : f_X11_from mw mnames mkept mundo mrefused x1 = some q) : Met l yX11_from wsX11_from { frames := 1, cells := 0, slots := 0, locals := 25 } (va_Pc [.ref (ad 100), .int x1] (Wd D cs sa n ad A en)) (va_Qi (fun r u => q.1 = r ∧ u 100 = .inr (8, [.ref (ad 101), .ref (ad 102), .ref (ad 103), .ref (ad 104), .int mtexted, .int q.2.2.2.1, .long mabove, .long mbelow, .ref (ad 105), .ref (ad 106), .ref (ad 107), .ref (ad 108), .int mitems, .int mat, .int mfault, .int mtakes, .long mmisses, .long mbest, .ref (ad 109), .long mh]) ∧ u 101 = .inl (cs 1, 960, .inl (q.2.1)) ∧ u 102 = .inl (cs 2, 96, .inr (.inl (q.2.2.1))) ∧ u 105 = .inl (cs 1, 3, .inl (q.2.2.2.2)) ∧ (∀ j, (j < 100 ∨ 101 ≤ j) → (j < 101 ∨ 102 ≤ j) → (j < 102 ∨ 103 ≤ j) → (j < 105 ∨ 106 ≤ j) → u j = en j)) (Wd D cs sa n ad A) A) 0 0 A := by
  refine G_startI cX11_from 2 [(0, .ref (ad 100)), (1, .int x1)] (by decide) rfl (Nat.le_of_ble_eq_true rfl) rfl ?_
  intro p e s m args below meth c Q hC hnm Kr
  have inX11 : ∀ w ∈ u_ws RX11 TX11 20, w ∈ wsX11_from := by decide +kernel
  have m105 : Cond.fieldLink RX11 105 "TongueTipModel" "undoable" "I" ∈ wsX11_from := by decide +kernel
  have m17 : Cond.fieldLink RX11 17 "TongueTipModel" "isKept" "[Z" ∈ wsX11_from := by decide +kernel
  unfold f_X11_from at h
  have hfr : ∀ j, (j < 100 ∨ 101 ≤ j) → (j < 101 ∨ 102 ≤ j) → (j < 102 ∨ 103 ≤ j) → (j < 105 ∨ 106 ≤ j) → en j = en j := fun _ _ _ _ _ => rfl
  refine G_iload_n hC 1 1 rfl rfl dX11_from_0 ?_
  refine G_i2l hC dX11_from_1 ?_
  refine G_lconst hC (v := 0) (by decide) dX11_from_2 ?_
  refine G_lconst hC (v := 1) (by decide) dX11_from_3 ?_
  obtain ⟨q4, h4, h⟩ := bnd h
  refine G_cSi (st := []) hC _ (c_X11_in  l  h4) (va_cwS 3 hC.hts gX11_from_X11_in rfl rfl rfl (by decide +kernel) ⟨Nat.le_of_ble_eq_true rfl, Nat.le_of_ble_eq_true rfl⟩) rfl (Nat.le_of_ble_eq_true rfl) (Nat.zero_le _) (Nat.zero_le _) rfl dX11_from_4 (fun r4 enx hw => ?_)
  obtain ⟨rfl, rfl⟩ := hw
  refine G_if_ne hC 17 dX11_from_7 (by decide) (fun c7 => ?_) (fun c7 => ?_)
  · have h := ifn c7 h
    refine G_aload_n hC 0 0 rfl rfl dX11_from_17 ?_
    refine G_get hC inX11 100 (by omega) (v := .ref (ad 103)) e_model rfl 2 (by decide) m17 rfl rfl dX11_from_18 ?_
    refine G_iload_n hC 1 1 rfl rfl dX11_from_21 ?_
    obtain ⟨g22, h⟩ := asn h
    refine G_zald hC 103 (by omega) e_mkeptarr g22 dX11_from_22 ?_
    refine G_if_ne hC 33 dX11_from_23 (by decide) (fun c23 => ?_) (fun c23 => ?_)
    · have h := ifn c23 h
      refine G_aload_n hC 0 0 rfl rfl dX11_from_33 ?_
      refine G_bipush hC (v := 120) (by decide) dX11_from_34 ?_
      refine G_iconst hC (v := 1) (by decide) dX11_from_36 ?_
      refine G_iload_n hC 1 1 rfl rfl dX11_from_37 ?_
      refine G_iadd hC dX11_from_38 ?_
      refine G_imul hC dX11_from_39 ?_
      refine G_iconst hC (v := 0) (by decide) dX11_from_40 ?_
      obtain ⟨q41, h41, h⟩ := bnd h
      refine G_cVv (st := []) hC _ 100 (by omega) (c_X11_copy  l (by omega) e_model e_mwarr e_mnamesarr h41) (cwV 2 hC.hts gX11_from_X11_copy rfl rfl rfl (by decide +kernel) ⟨Nat.le_of_ble_eq_true rfl, Nat.le_of_ble_eq_true rfl⟩) e_model rfl rfl (Nat.le_of_ble_eq_true rfl) (Nat.zero_le _) (Nat.zero_le _) rfl dX11_from_41 (fun en2 hw => ?_)
      obtain ⟨e_mwarr, e_mnamesarr, fr⟩ := hw
      have e_model := (fr 100 (by omega) (by omega)).trans e_model
      have e_mkeptarr := (fr 103 (by omega) (by omega)).trans e_mkeptarr
      have e_mrefusedarr := (fr 105 (by omega) (by omega)).trans e_mrefusedarr
      have hfr : ∀ j, (j < 100 ∨ 101 ≤ j) → (j < 101 ∨ 102 ≤ j) → (j < 102 ∨ 103 ≤ j) → (j < 105 ∨ 106 ≤ j) → en2 j = en j := fun j o0 o1 o2 o3 => (fr j (by omega) (by omega)).trans (hfr j o0 o1 o2 o3)
      refine G_aload_n hC 0 0 rfl rfl dX11_from_44 ?_
      refine G_iconst hC (v := 0) (by decide) dX11_from_45 ?_
      refine G_put hC inX11 tyX11 tyX11_ok nmX11 100 (by omega) e_model rfl 5 (by decide) m105 rfl rfl (ty := .int) rfl rfl rfl (Nat.le_of_ble_eq_true rfl) dX11_from_46 (fun en3 e_model fr => ?_)
      have e_model : en3 100 = .inr (8, [.ref (ad 101), .ref (ad 102), .ref (ad 103), .ref (ad 104), .int mtexted, .int (0 : Int32), .long mabove, .long mbelow, .ref (ad 105), .ref (ad 106), .ref (ad 107), .ref (ad 108), .int mitems, .int mat, .int mfault, .int mtakes, .long mmisses, .long mbest, .ref (ad 109), .long mh]) := e_model
      have e_mwarr := (fr 101 (by omega)).trans e_mwarr
      have e_mnamesarr := (fr 102 (by omega)).trans e_mnamesarr
      have e_mkeptarr := (fr 103 (by omega)).trans e_mkeptarr
      have e_mrefusedarr := (fr 105 (by omega)).trans e_mrefusedarr
      have hfr : ∀ j, (j < 100 ∨ 101 ≤ j) → (j < 101 ∨ 102 ≤ j) → (j < 102 ∨ 103 ≤ j) → (j < 105 ∨ 106 ≤ j) → en3 j = en j := fun j o0 o1 o2 o3 => (fr j (by omega)).trans (hfr j o0 o1 o2 o3)
      refine G_iconst hC (v := 1) (by decide) dX11_from_49 ?_
      have h := Option.some.inj h
      subst h
      exact Kr _ _ _ _ (nar_i _) ⟨rfl, e_model, e_mwarr, e_mnamesarr, e_mrefusedarr, hfr⟩ dX11_from_50
    have h := ifp c23 h
    refine G_aload_n hC 0 0 rfl rfl dX11_from_26 ?_
    refine G_bipush hC (v := (-3)) (by decide) dX11_from_27 ?_
    obtain ⟨q29, h29, h⟩ := bnd h
    refine G_cVi (st := []) hC _ 100 (by omega) (c_X11_told  l (by omega) e_model e_mrefusedarr h29) (cwV 1 hC.hts gX11_from_X11_told rfl rfl rfl (by decide +kernel) ⟨Nat.le_of_ble_eq_true rfl, Nat.le_of_ble_eq_true rfl⟩) e_model rfl rfl (Nat.le_of_ble_eq_true rfl) (Nat.zero_le _) (Nat.zero_le _) rfl dX11_from_29 (fun r29 en4 hw => ?_)
    obtain ⟨rfl, e_mrefusedarr, fr⟩ := hw
    have e_model := (fr 100 (by omega)).trans e_model
    have e_mwarr := (fr 101 (by omega)).trans e_mwarr
    have e_mnamesarr := (fr 102 (by omega)).trans e_mnamesarr
    have e_mkeptarr := (fr 103 (by omega)).trans e_mkeptarr
    have hfr : ∀ j, (j < 100 ∨ 101 ≤ j) → (j < 101 ∨ 102 ≤ j) → (j < 102 ∨ 103 ≤ j) → (j < 105 ∨ 106 ≤ j) → en4 j = en j := fun j o0 o1 o2 o3 => (fr j (by omega)).trans (hfr j o0 o1 o2 o3)
    have h := Option.some.inj h
    subst h
    exact Kr _ _ _ _ (nar_i _) ⟨rfl, e_model, e_mwarr, e_mnamesarr, e_mrefusedarr, hfr⟩ dX11_from_32
  have h := ifp c7 h
  refine G_aload_n hC 0 0 rfl rfl dX11_from_10 ?_
  refine G_bipush hC (v := (-2)) (by decide) dX11_from_11 ?_
  obtain ⟨q13, h13, h⟩ := bnd h
  refine G_cVi (st := []) hC _ 100 (by omega) (c_X11_told  l (by omega) e_model e_mrefusedarr h13) (cwV 1 hC.hts gX11_from_X11_told rfl rfl rfl (by decide +kernel) ⟨Nat.le_of_ble_eq_true rfl, Nat.le_of_ble_eq_true rfl⟩) e_model rfl rfl (Nat.le_of_ble_eq_true rfl) (Nat.zero_le _) (Nat.zero_le _) rfl dX11_from_13 (fun r13 en5 hw => ?_)
  obtain ⟨rfl, e_mrefusedarr, fr⟩ := hw
  have e_model := (fr 100 (by omega)).trans e_model
  have e_mwarr := (fr 101 (by omega)).trans e_mwarr
  have e_mnamesarr := (fr 102 (by omega)).trans e_mnamesarr
  have e_mkeptarr := (fr 103 (by omega)).trans e_mkeptarr
  have hfr : ∀ j, (j < 100 ∨ 101 ≤ j) → (j < 101 ∨ 102 ≤ j) → (j < 102 ∨ 103 ≤ j) → (j < 105 ∨ 106 ≤ j) → en5 j = en j := fun j o0 o1 o2 o3 => (fr j (by omega)).trans (hfr j o0 o1 o2 o3)
  have h := Option.some.inj h
  subst h
  exact Kr _ _ _ _ (nar_i _) ⟨rfl, e_model, e_mwarr, e_mnamesarr, e_mrefusedarr, hfr⟩ dX11_from_16
def f_X11_status (mrefused : Nat → Int32) (x1 : Int32) : Option (Int32 × (Nat → Int32)) := Option.bind (f_X11_in x1.toInt64 (0 : Int64) (2 : Int64)) (fun q6 => if q6 = 0 then (if (0 : Int32) < 0 ∨ 3 ≤ (0 : Int32).toNatClampNeg then none else (if (0 : Int32) < 0 ∨ 3 ≤ (0 : Int32).toNatClampNeg then none else (some ((-1 : Int32), upd mrefused (0 : Int32).toNatClampNeg ((mrefused (0 : Int32).toNatClampNeg) + (1 : Int32)))))) else (if x1 < 0 ∨ 3 ≤ x1.toNatClampNeg then none else (some (mrefused x1.toNatClampNeg, mrefused))))
set_option maxHeartbeats 4000000 in
set_option maxRecDepth 100000 in
theorem c_X11_status {D : va_G} {cs : Nat → ClassId} {sa : Nat → Nat} {n : Nat} {ad : Nat → Nat} {A : Nat → Prop} (l : Launch) {en : Nat → va_E}  {mtexted : Int32} {mundo : Int32} {mabove : Int64} {mbelow : Int64} {mrefused : Nat → Int32} {mitems : Int32} {mat : Int32} {mfault : Int32} {mtakes : Int32} {mmisses : Int64} {mbest : Int64} {mh : Int64} {x1 : Int32}  {q : Int32 × (Nat → Int32)} (hn : 110 ≤ n) (e_model : en 100 = .inr (8, [.ref (ad 101), .ref (ad 102), .ref (ad 103), .ref (ad 104), .int mtexted, .int mundo, .long mabove, .long mbelow, .ref (ad 105), .ref (ad 106), .ref (ad 107), .ref (ad 108), .int mitems, .int mat, .int mfault, .int mtakes, .long mmisses, .long mbest, .ref (ad 109), .long mh])) (e_mrefusedarr : en 105 = .inl (cs 1, 3, .inl (mrefused))) (h : f_X11_status mrefused x1 = some q) : Met l yX11_status wsX11_status { frames := 1, cells := 0, slots := 0, locals := 25 } (va_Pc [.ref (ad 100), .int x1] (Wd D cs sa n ad A en)) (va_Qi (fun r u => q.1 = r ∧ u 105 = .inl (cs 1, 3, .inl (q.2)) ∧ (∀ j, (j < 105 ∨ 106 ≤ j) → u j = en j)) (Wd D cs sa n ad A) A) 0 0 A := by
  refine G_startI cX11_status 2 [(0, .ref (ad 100)), (1, .int x1)] (by decide) rfl (Nat.le_of_ble_eq_true rfl) rfl ?_
  intro p e s m args below meth c Q hC hnm Kr
  have inX11 : ∀ w ∈ u_ws RX11 TX11 20, w ∈ wsX11_status := by decide +kernel
  have k258 : Cond.constantLong RX11 258 (2) ∈ wsX11_status := by decide +kernel
  have m28 : Cond.fieldLink RX11 28 "TongueTipModel" "refused" "[I" ∈ wsX11_status := by decide +kernel
  unfold f_X11_status at h
  have hfr : ∀ j, (j < 105 ∨ 106 ≤ j) → en j = en j := fun _ _ => rfl
  refine G_iload_n hC 1 1 rfl rfl dX11_status_0 ?_
  refine G_i2l hC dX11_status_1 ?_
  refine G_lconst hC (v := 0) (by decide) dX11_status_2 ?_
  refine G_ldc2 hC (v := (2)) k258 dX11_status_3 ?_
  obtain ⟨q6, h6, h⟩ := bnd h
  refine G_cSi (st := []) hC _ (c_X11_in  l  h6) (va_cwS 3 hC.hts gX11_status_X11_in rfl rfl rfl (by decide +kernel) ⟨Nat.le_of_ble_eq_true rfl, Nat.le_of_ble_eq_true rfl⟩) rfl (Nat.le_of_ble_eq_true rfl) (Nat.zero_le _) (Nat.zero_le _) rfl dX11_status_6 (fun r6 enx hw => ?_)
  obtain ⟨rfl, rfl⟩ := hw
  refine G_if_ne hC 24 dX11_status_9 (by decide) (fun c9 => ?_) (fun c9 => ?_)
  · have h := ifn c9 h
    refine G_aload_n hC 0 0 rfl rfl dX11_status_24 ?_
    refine G_get hC inX11 100 (by omega) (v := .ref (ad 105)) e_model rfl 8 (by decide) m28 rfl rfl dX11_status_25 ?_
    refine G_iload_n hC 1 1 rfl rfl dX11_status_28 ?_
    obtain ⟨g29, h⟩ := asn h
    refine G_iald hC 105 (by omega) e_mrefusedarr g29 dX11_status_29 ?_
    have h := Option.some.inj h
    subst h
    exact Kr _ _ _ _ (nar_i _) ⟨rfl, e_mrefusedarr, hfr⟩ dX11_status_30
  have h := ifp c9 h
  refine G_aload_n hC 0 0 rfl rfl dX11_status_12 ?_
  refine G_get hC inX11 100 (by omega) (v := .ref (ad 105)) e_model rfl 8 (by decide) m28 rfl rfl dX11_status_13 ?_
  refine G_iconst hC (v := 0) (by decide) dX11_status_16 ?_
  refine G_dup2_11 hC rfl rfl dX11_status_17 ?_
  obtain ⟨g18, h⟩ := asn h
  refine G_iald hC 105 (by omega) e_mrefusedarr g18 dX11_status_18 ?_
  refine G_iconst hC (v := 1) (by decide) dX11_status_19 ?_
  refine G_iadd hC dX11_status_20 ?_
  obtain ⟨g21, h⟩ := asn h
  refine G_iast hC 105 (by omega) e_mrefusedarr g21 dX11_status_21 (fun en2 e_mrefusedarr fr => ?_)
  have e_mrefusedarr : en2 105 = .inl (cs 1, 3, .inl (upd mrefused (0 : Int32).toNatClampNeg ((mrefused (0 : Int32).toNatClampNeg) + (1 : Int32)))) := e_mrefusedarr
  have e_model := (fr 100 (by omega)).trans e_model
  have hfr : ∀ j, (j < 105 ∨ 106 ≤ j) → en2 j = en j := fun j o0 => (fr j (by omega)).trans (hfr j o0)
  refine G_iconst hC (v := (-1)) (by decide) dX11_status_22 ?_
  have h := Option.some.inj h
  subst h
  exact Kr _ _ _ _ (nar_i _) ⟨rfl, e_mrefusedarr, hfr⟩ dX11_status_23
def f_X11_countOf (mw : Nat → Int32) (mtexted : Int32) (mundo : Int32) (x1 : Int32) : Option (Int32) := if x1 = 0 then (if (0 : Int32) < 0 ∨ 960 ≤ (0 : Int32).toNatClampNeg then none else (some (mw (0 : Int32).toNatClampNeg))) else (if x1 = (1 : Int32) then (if (73 : Int32) < 0 ∨ 960 ≤ (73 : Int32).toNatClampNeg then none else (some (mw (73 : Int32).toNatClampNeg))) else (if x1 = (2 : Int32) then (if (89 : Int32) < 0 ∨ 960 ≤ (89 : Int32).toNatClampNeg then none else (some (mw (89 : Int32).toNatClampNeg))) else (if x1 = (3 : Int32) then (some mtexted) else (if x1 = (4 : Int32) then (some mundo) else (if (115 : Int32) < 0 ∨ 960 ≤ (115 : Int32).toNatClampNeg then none else (some (mw (115 : Int32).toNatClampNeg)))))))
set_option maxHeartbeats 4000000 in
set_option maxRecDepth 100000 in
theorem c_X11_countOf {D : va_G} {cs : Nat → ClassId} {sa : Nat → Nat} {n : Nat} {ad : Nat → Nat} {A : Nat → Prop} (l : Launch) {en : Nat → va_E}  {mw : Nat → Int32} {mtexted : Int32} {mundo : Int32} {mabove : Int64} {mbelow : Int64} {mitems : Int32} {mat : Int32} {mfault : Int32} {mtakes : Int32} {mmisses : Int64} {mbest : Int64} {mh : Int64} {x1 : Int32}  {q : Int32} (hn : 110 ≤ n) (e_model : en 100 = .inr (8, [.ref (ad 101), .ref (ad 102), .ref (ad 103), .ref (ad 104), .int mtexted, .int mundo, .long mabove, .long mbelow, .ref (ad 105), .ref (ad 106), .ref (ad 107), .ref (ad 108), .int mitems, .int mat, .int mfault, .int mtakes, .long mmisses, .long mbest, .ref (ad 109), .long mh])) (e_mwarr : en 101 = .inl (cs 1, 960, .inl (mw))) (h : f_X11_countOf mw mtexted mundo x1 = some q) : Met l yX11_countOf wsX11_countOf { frames := 0, cells := 0, slots := 0, locals := 0 } (va_Pc [.ref (ad 100), .int x1] (Wd D cs sa n ad A en)) (va_Qi (fun r u => q = r ∧ en = u) (Wd D cs sa n ad A) A) 0 0 A := by
  refine G_startI cX11_countOf 2 [(0, .ref (ad 100)), (1, .int x1)] (by decide) rfl (Nat.le_of_ble_eq_true rfl) rfl ?_
  intro p e s m args below meth c Q hC hnm Kr
  have inX11 : ∀ w ∈ u_ws RX11 TX11 20, w ∈ wsX11_countOf := by decide +kernel
  have m105 : Cond.fieldLink RX11 105 "TongueTipModel" "undoable" "I" ∈ wsX11_countOf := by decide +kernel
  have m124 : Cond.fieldLink RX11 124 "TongueTipModel" "texted" "I" ∈ wsX11_countOf := by decide +kernel
  have m7 : Cond.fieldLink RX11 7 "TongueTipModel" "w" "[I" ∈ wsX11_countOf := by decide +kernel
  unfold f_X11_countOf at h
  refine G_iload_n hC 1 1 rfl rfl dX11_countOf_0 ?_
  refine G_if_ne hC 13 dX11_countOf_1 (by decide) (fun c1 => ?_) (fun c1 => ?_)
  · have h := ifn c1 h
    refine G_iload_n hC 1 1 rfl rfl dX11_countOf_13 ?_
    refine G_iconst hC (v := 1) (by decide) dX11_countOf_14 ?_
    refine G_icmp_ne hC 28 dX11_countOf_15 (by decide) (fun c15 => ?_) (fun c15 => ?_)
    · have h := ifn c15 h
      refine G_iload_n hC 1 1 rfl rfl dX11_countOf_28 ?_
      refine G_iconst hC (v := 2) (by decide) dX11_countOf_29 ?_
      refine G_icmp_ne hC 43 dX11_countOf_30 (by decide) (fun c30 => ?_) (fun c30 => ?_)
      · have h := ifn c30 h
        refine G_iload_n hC 1 1 rfl rfl dX11_countOf_43 ?_
        refine G_iconst hC (v := 3) (by decide) dX11_countOf_44 ?_
        refine G_icmp_ne hC 55 dX11_countOf_45 (by decide) (fun c45 => ?_) (fun c45 => ?_)
        · have h := ifn c45 h
          refine G_iload_n hC 1 1 rfl rfl dX11_countOf_55 ?_
          refine G_iconst hC (v := 4) (by decide) dX11_countOf_56 ?_
          refine G_icmp_ne hC 67 dX11_countOf_57 (by decide) (fun c57 => ?_) (fun c57 => ?_)
          · have h := ifn c57 h
            refine G_aload_n hC 0 0 rfl rfl dX11_countOf_67 ?_
            refine G_get hC inX11 100 (by omega) (v := .ref (ad 101)) e_model rfl 0 (by decide) m7 rfl rfl dX11_countOf_68 ?_
            refine G_bipush hC (v := 115) (by decide) dX11_countOf_71 ?_
            obtain ⟨g73, h⟩ := asn h
            refine G_iald hC 101 (by omega) e_mwarr g73 dX11_countOf_73 ?_
            have h := Option.some.inj h
            subst h
            exact Kr _ _ _ _ (nar_i _) ⟨rfl, rfl⟩ dX11_countOf_74
          have h := ifp c57 h
          refine G_aload_n hC 0 0 rfl rfl dX11_countOf_60 ?_
          refine G_get hC inX11 100 (by omega) (v := .int mundo) e_model rfl 5 (by decide) m105 rfl rfl dX11_countOf_61 ?_
          refine G_goto hC 74 dX11_countOf_64 (by decide) ?_
          have h := Option.some.inj h
          subst h
          exact Kr _ _ _ _ (nar_i _) ⟨rfl, rfl⟩ dX11_countOf_74
        have h := ifp c45 h
        refine G_aload_n hC 0 0 rfl rfl dX11_countOf_48 ?_
        refine G_get hC inX11 100 (by omega) (v := .int mtexted) e_model rfl 4 (by decide) m124 rfl rfl dX11_countOf_49 ?_
        refine G_goto hC 74 dX11_countOf_52 (by decide) ?_
        have h := Option.some.inj h
        subst h
        exact Kr _ _ _ _ (nar_i _) ⟨rfl, rfl⟩ dX11_countOf_74
      have h := ifp c30 h
      refine G_aload_n hC 0 0 rfl rfl dX11_countOf_33 ?_
      refine G_get hC inX11 100 (by omega) (v := .ref (ad 101)) e_model rfl 0 (by decide) m7 rfl rfl dX11_countOf_34 ?_
      refine G_bipush hC (v := 89) (by decide) dX11_countOf_37 ?_
      obtain ⟨g39, h⟩ := asn h
      refine G_iald hC 101 (by omega) e_mwarr g39 dX11_countOf_39 ?_
      refine G_goto hC 74 dX11_countOf_40 (by decide) ?_
      have h := Option.some.inj h
      subst h
      exact Kr _ _ _ _ (nar_i _) ⟨rfl, rfl⟩ dX11_countOf_74
    have h := ifp c15 h
    refine G_aload_n hC 0 0 rfl rfl dX11_countOf_18 ?_
    refine G_get hC inX11 100 (by omega) (v := .ref (ad 101)) e_model rfl 0 (by decide) m7 rfl rfl dX11_countOf_19 ?_
    refine G_bipush hC (v := 73) (by decide) dX11_countOf_22 ?_
    obtain ⟨g24, h⟩ := asn h
    refine G_iald hC 101 (by omega) e_mwarr g24 dX11_countOf_24 ?_
    refine G_goto hC 74 dX11_countOf_25 (by decide) ?_
    have h := Option.some.inj h
    subst h
    exact Kr _ _ _ _ (nar_i _) ⟨rfl, rfl⟩ dX11_countOf_74
  have h := ifp c1 h
  refine G_aload_n hC 0 0 rfl rfl dX11_countOf_4 ?_
  refine G_get hC inX11 100 (by omega) (v := .ref (ad 101)) e_model rfl 0 (by decide) m7 rfl rfl dX11_countOf_5 ?_
  refine G_iconst hC (v := 0) (by decide) dX11_countOf_8 ?_
  obtain ⟨g9, h⟩ := asn h
  refine G_iald hC 101 (by omega) e_mwarr g9 dX11_countOf_9 ?_
  refine G_goto hC 74 dX11_countOf_10 (by decide) ?_
  have h := Option.some.inj h
  subst h
  exact Kr _ _ _ _ (nar_i _) ⟨rfl, rfl⟩ dX11_countOf_74
def f_X11_count (mw : Nat → Int32) (mtexted : Int32) (mundo : Int32) (mrefused : Nat → Int32) (x1 : Int32) : Option (Int32 × (Nat → Int32)) := Option.bind (f_X11_in x1.toInt64 (0 : Int64) (5 : Int64)) (fun q6 => if q6 = 0 then (Option.bind (f_X11_told mrefused (-2 : Int32)) (fun q23 => some (q23.1, q23.2))) else (Option.bind (f_X11_countOf mw mtexted mundo x1) (fun q14 => some (q14, mrefused))))
set_option maxHeartbeats 4000000 in
set_option maxRecDepth 100000 in
theorem c_X11_count {D : va_G} {cs : Nat → ClassId} {sa : Nat → Nat} {n : Nat} {ad : Nat → Nat} {A : Nat → Prop} (l : Launch) {en : Nat → va_E}  {mw : Nat → Int32} {mtexted : Int32} {mundo : Int32} {mabove : Int64} {mbelow : Int64} {mrefused : Nat → Int32} {mitems : Int32} {mat : Int32} {mfault : Int32} {mtakes : Int32} {mmisses : Int64} {mbest : Int64} {mh : Int64} {x1 : Int32}  {q : Int32 × (Nat → Int32)} (hn : 110 ≤ n) (e_model : en 100 = .inr (8, [.ref (ad 101), .ref (ad 102), .ref (ad 103), .ref (ad 104), .int mtexted, .int mundo, .long mabove, .long mbelow, .ref (ad 105), .ref (ad 106), .ref (ad 107), .ref (ad 108), .int mitems, .int mat, .int mfault, .int mtakes, .long mmisses, .long mbest, .ref (ad 109), .long mh])) (e_mwarr : en 101 = .inl (cs 1, 960, .inl (mw))) (e_mrefusedarr : en 105 = .inl (cs 1, 3, .inl (mrefused))) (h : f_X11_count mw mtexted mundo mrefused x1 = some q) : Met l yX11_count wsX11_count { frames := 1, cells := 0, slots := 0, locals := 25 } (va_Pc [.ref (ad 100), .int x1] (Wd D cs sa n ad A en)) (va_Qi (fun r u => q.1 = r ∧ u 105 = .inl (cs 1, 3, .inl (q.2)) ∧ (∀ j, (j < 105 ∨ 106 ≤ j) → u j = en j)) (Wd D cs sa n ad A) A) 0 0 A := by
  refine G_startI cX11_count 2 [(0, .ref (ad 100)), (1, .int x1)] (by decide) rfl (Nat.le_of_ble_eq_true rfl) rfl ?_
  intro p e s m args below meth c Q hC hnm Kr
  have k63 : Cond.constantLong RX11 63 (5) ∈ wsX11_count := by decide +kernel
  unfold f_X11_count at h
  have hfr : ∀ j, (j < 105 ∨ 106 ≤ j) → en j = en j := fun _ _ => rfl
  refine G_iload_n hC 1 1 rfl rfl dX11_count_0 ?_
  refine G_i2l hC dX11_count_1 ?_
  refine G_lconst hC (v := 0) (by decide) dX11_count_2 ?_
  refine G_ldc2 hC (v := (5)) k63 dX11_count_3 ?_
  obtain ⟨q6, h6, h⟩ := bnd h
  refine G_cSi (st := []) hC _ (c_X11_in  l  h6) (va_cwS 3 hC.hts gX11_count_X11_in rfl rfl rfl (by decide +kernel) ⟨Nat.le_of_ble_eq_true rfl, Nat.le_of_ble_eq_true rfl⟩) rfl (Nat.le_of_ble_eq_true rfl) (Nat.zero_le _) (Nat.zero_le _) rfl dX11_count_6 (fun r6 enx hw => ?_)
  obtain ⟨rfl, rfl⟩ := hw
  refine G_if_eq hC 20 dX11_count_9 (by decide) (fun c9 => ?_) (fun c9 => ?_)
  · have h := ifp c9 h
    refine G_aload_n hC 0 0 rfl rfl dX11_count_20 ?_
    refine G_bipush hC (v := (-2)) (by decide) dX11_count_21 ?_
    obtain ⟨q23, h23, h⟩ := bnd h
    refine G_cVi (st := []) hC _ 100 (by omega) (c_X11_told  l (by omega) e_model e_mrefusedarr h23) (cwV 1 hC.hts gX11_count_X11_told rfl rfl rfl (by decide +kernel) ⟨Nat.le_of_ble_eq_true rfl, Nat.le_of_ble_eq_true rfl⟩) e_model rfl rfl (Nat.le_of_ble_eq_true rfl) (Nat.zero_le _) (Nat.zero_le _) rfl dX11_count_23 (fun r23 en2 hw => ?_)
    obtain ⟨rfl, e_mrefusedarr, fr⟩ := hw
    have e_model := (fr 100 (by omega)).trans e_model
    have e_mwarr := (fr 101 (by omega)).trans e_mwarr
    have hfr : ∀ j, (j < 105 ∨ 106 ≤ j) → en2 j = en j := fun j o0 => (fr j (by omega)).trans (hfr j o0)
    have h := Option.some.inj h
    subst h
    exact Kr _ _ _ _ (nar_i _) ⟨rfl, e_mrefusedarr, hfr⟩ dX11_count_26
  have h := ifn c9 h
  refine G_aload_n hC 0 0 rfl rfl dX11_count_12 ?_
  refine G_iload_n hC 1 1 rfl rfl dX11_count_13 ?_
  obtain ⟨q14, h14, h⟩ := bnd h
  refine G_cVi (st := []) hC _ 100 (by omega) (c_X11_countOf  l (by omega) e_model e_mwarr h14) (cwV 1 hC.hts gX11_count_X11_countOf rfl rfl rfl (by decide +kernel) ⟨Nat.le_of_ble_eq_true rfl, Nat.le_of_ble_eq_true rfl⟩) e_model rfl rfl (Nat.le_of_ble_eq_true rfl) (Nat.zero_le _) (Nat.zero_le _) rfl dX11_count_14 (fun r14 enx hw => ?_)
  obtain ⟨rfl, rfl⟩ := hw
  refine G_goto hC 26 dX11_count_17 (by decide) ?_
  have h := Option.some.inj h
  subst h
  exact Kr _ _ _ _ (nar_i _) ⟨rfl, e_mrefusedarr, hfr⟩ dX11_count_26
def f_X11_mix (mh : Int64) (x1 : Int64) : Option (Int64) := some (((31 : Int64) * mh) + x1)
set_option maxHeartbeats 4000000 in
set_option maxRecDepth 100000 in
theorem c_X11_mix {D : va_G} {cs : Nat → ClassId} {sa : Nat → Nat} {n : Nat} {ad : Nat → Nat} {A : Nat → Prop} (l : Launch) {en : Nat → va_E}  {mtexted : Int32} {mundo : Int32} {mabove : Int64} {mbelow : Int64} {mitems : Int32} {mat : Int32} {mfault : Int32} {mtakes : Int32} {mmisses : Int64} {mbest : Int64} {mh : Int64} {x1 : Int64}  {q : Int64} (hn : 110 ≤ n) (e_model : en 100 = .inr (8, [.ref (ad 101), .ref (ad 102), .ref (ad 103), .ref (ad 104), .int mtexted, .int mundo, .long mabove, .long mbelow, .ref (ad 105), .ref (ad 106), .ref (ad 107), .ref (ad 108), .int mitems, .int mat, .int mfault, .int mtakes, .long mmisses, .long mbest, .ref (ad 109), .long mh])) (h : f_X11_mix mh x1 = some q) : Met l yX11_mix wsX11_mix { frames := 0, cells := 0, slots := 0, locals := 0 } (va_Pc [.ref (ad 100), .long x1] (Wd D cs sa n ad A en)) (va_Qv (fun u => u 100 = .inr (8, [.ref (ad 101), .ref (ad 102), .ref (ad 103), .ref (ad 104), .int mtexted, .int mundo, .long mabove, .long mbelow, .ref (ad 105), .ref (ad 106), .ref (ad 107), .ref (ad 108), .int mitems, .int mat, .int mfault, .int mtakes, .long mmisses, .long mbest, .ref (ad 109), .long q]) ∧ (∀ j, (j < 100 ∨ 101 ≤ j) → u j = en j)) (Wd D cs sa n ad A) A) 0 0 A := by
  refine G_startV cX11_mix 3 [(0, .ref (ad 100)), (1, .long x1)] (by decide) rfl (Nat.le_of_ble_eq_true rfl) rfl ?_
  intro p e s m args below meth c Q hC hnm Kr
  have inX11 : ∀ w ∈ u_ws RX11 TX11 20, w ∈ wsX11_mix := by decide +kernel
  have k263 : Cond.constantLong RX11 263 (31) ∈ wsX11_mix := by decide +kernel
  have m265 : Cond.fieldLink RX11 265 "TongueTipModel" "h" "J" ∈ wsX11_mix := by decide +kernel
  unfold f_X11_mix at h
  have hfr : ∀ j, (j < 100 ∨ 101 ≤ j) → en j = en j := fun _ _ => rfl
  refine G_aload_n hC 0 0 rfl rfl dX11_mix_0 ?_
  refine G_ldc2 hC (v := (31)) k263 dX11_mix_1 ?_
  refine G_aload_n hC 0 0 rfl rfl dX11_mix_4 ?_
  refine G_get hC inX11 100 (by omega) (v := .long mh) e_model rfl 19 (by decide) m265 rfl rfl dX11_mix_5 ?_
  refine G_lmul hC dX11_mix_8 ?_
  refine G_lload_n hC 1 1 rfl rfl dX11_mix_9 ?_
  refine G_ladd hC dX11_mix_10 ?_
  refine G_put hC inX11 tyX11 tyX11_ok nmX11 100 (by omega) e_model rfl 19 (by decide) m265 rfl rfl (ty := .long) rfl rfl rfl (Nat.le_of_ble_eq_true rfl) dX11_mix_11 (fun en2 e_model fr => ?_)
  have e_model : en2 100 = .inr (8, [.ref (ad 101), .ref (ad 102), .ref (ad 103), .ref (ad 104), .int mtexted, .int mundo, .long mabove, .long mbelow, .ref (ad 105), .ref (ad 106), .ref (ad 107), .ref (ad 108), .int mitems, .int mat, .int mfault, .int mtakes, .long mmisses, .long mbest, .ref (ad 109), .long (((31 : Int64) * mh) + x1)]) := e_model
  have hfr : ∀ j, (j < 100 ∨ 101 ≤ j) → en2 j = en j := fun j o0 => (fr j (by omega)).trans (hfr j o0)
  have h := Option.some.inj h
  subst h
  exact Kr _ _ _ ⟨e_model, hfr⟩ dX11_mix_14
def f_X11_mixAll_L2 (mw : Nat → Int32)  : Nat → Int64 → Int32 → Int32 → Int32 → Option (Int64)
  | 0, _, _, _, _ => none
  | fu + 1, mh, x1, x2, x3 => if x2 ≤ x3 then (some mh) else (if x1 + x3 < 0 ∨ 960 ≤ (x1 + x3).toNatClampNeg then none else (Option.bind (f_X11_mix mh ((mw (x1 + x3).toNatClampNeg).toInt64)) (fun q17 => f_X11_mixAll_L2 mw fu q17 x1 x2 (x3 + (1 : Int32)))))
def f_X11_mixAll (mw : Nat → Int32) (mh : Int64) (x1 : Int32) (x2 : Int32) : Option (Int64) := f_X11_mixAll_L2 mw FU mh x1 x2 (0 : Int32)
set_option maxHeartbeats 4000000 in
set_option maxRecDepth 100000 in
theorem c_X11_mixAll {D : va_G} {cs : Nat → ClassId} {sa : Nat → Nat} {n : Nat} {ad : Nat → Nat} {A : Nat → Prop} (l : Launch) {en : Nat → va_E}  {mw : Nat → Int32} {mtexted : Int32} {mundo : Int32} {mabove : Int64} {mbelow : Int64} {mitems : Int32} {mat : Int32} {mfault : Int32} {mtakes : Int32} {mmisses : Int64} {mbest : Int64} {mh : Int64} {x1 : Int32} {x2 : Int32}  {q : Int64} (hn : 110 ≤ n) (e_model : en 100 = .inr (8, [.ref (ad 101), .ref (ad 102), .ref (ad 103), .ref (ad 104), .int mtexted, .int mundo, .long mabove, .long mbelow, .ref (ad 105), .ref (ad 106), .ref (ad 107), .ref (ad 108), .int mitems, .int mat, .int mfault, .int mtakes, .long mmisses, .long mbest, .ref (ad 109), .long mh])) (e_mwarr : en 101 = .inl (cs 1, 960, .inl (mw))) (h : f_X11_mixAll mw mh x1 x2 = some q) : Met l yX11_mixAll wsX11_mixAll { frames := 1, cells := 0, slots := 0, locals := 22 } (va_Pc [.ref (ad 100), .int x1, .int x2] (Wd D cs sa n ad A en)) (va_Qv (fun u => u 100 = .inr (8, [.ref (ad 101), .ref (ad 102), .ref (ad 103), .ref (ad 104), .int mtexted, .int mundo, .long mabove, .long mbelow, .ref (ad 105), .ref (ad 106), .ref (ad 107), .ref (ad 108), .int mitems, .int mat, .int mfault, .int mtakes, .long mmisses, .long mbest, .ref (ad 109), .long q]) ∧ (∀ j, (j < 100 ∨ 101 ≤ j) → u j = en j)) (Wd D cs sa n ad A) A) 0 0 A := by
  refine G_startV cX11_mixAll 4 [(0, .ref (ad 100)), (1, .int x1), (2, .int x2)] (by decide) rfl (Nat.le_of_ble_eq_true rfl) rfl ?_
  intro p e s m args below meth c Q hC hnm Kr
  have inX11 : ∀ w ∈ u_ws RX11 TX11 20, w ∈ wsX11_mixAll := by decide +kernel
  have m7 : Cond.fieldLink RX11 7 "TongueTipModel" "w" "[I" ∈ wsX11_mixAll := by decide +kernel
  have hL2 : ∀ (fu2 : Nat), ∀ (en1 : Nat → va_E) (mh : Int64) (x1 : Int32) (x2 : Int32) (x3 : Int32), en1 100 = .inr (8, [.ref (ad 101), .ref (ad 102), .ref (ad 103), .ref (ad 104), .int mtexted, .int mundo, .long mabove, .long mbelow, .ref (ad 105), .ref (ad 106), .ref (ad 107), .ref (ad 108), .int mitems, .int mat, .int mfault, .int mtakes, .long mmisses, .long mbest, .ref (ad 109), .long mh]) → en1 101 = .inl (cs 1, 960, .inl (mw)) → (∀ j, (j < 100 ∨ 101 ≤ j) → en1 j = en j) → f_X11_mixAll_L2 mw fu2 mh x1 x2 x3 = some q → G p l e ({ frames := 1, cells := 0, slots := 0, locals := 22 } : Room) s m args below meth c D n ad A 4 0 0 Q en1 2 [(0, .ref (ad 100)), (1, .int x1), (2, .int x2), (3, .int x3)] [] := by
    intro fu2
    induction fu2 with
    | zero =>
      intro en1 mh x1 x2 x3 e_model e_mwarr hfr h
      rw [f_X11_mixAll_L2] at h
      cases h
    | succ fu2 ih2 =>
      intro en1 mh x1 x2 x3 e_model e_mwarr hfr h
      rw [f_X11_mixAll_L2] at h
      refine G_iload_n hC 3 3 rfl rfl dX11_mixAll_2 ?_
      refine G_iload_n hC 2 2 rfl rfl dX11_mixAll_3 ?_
      refine G_icmp_ge hC 26 dX11_mixAll_4 (by decide) (fun c4 => ?_) (fun c4 => ?_)
      · have h := ifp c4 h
        have h := Option.some.inj h
        subst h
        exact Kr _ _ _ ⟨e_model, hfr⟩ dX11_mixAll_26
      have h := ifn c4 h
      refine G_aload_n hC 0 0 rfl rfl dX11_mixAll_7 ?_
      refine G_aload_n hC 0 0 rfl rfl dX11_mixAll_8 ?_
      refine G_get hC inX11 100 (by omega) (v := .ref (ad 101)) e_model rfl 0 (by decide) m7 rfl rfl dX11_mixAll_9 ?_
      refine G_iload_n hC 1 1 rfl rfl dX11_mixAll_12 ?_
      refine G_iload_n hC 3 3 rfl rfl dX11_mixAll_13 ?_
      refine G_iadd hC dX11_mixAll_14 ?_
      obtain ⟨g15, h⟩ := asn h
      refine G_iald hC 101 (by omega) e_mwarr g15 dX11_mixAll_15 ?_
      refine G_i2l hC dX11_mixAll_16 ?_
      obtain ⟨q17, h17, h⟩ := bnd h
      refine G_cVv (st := []) hC _ 100 (by omega) (c_X11_mix  l (by omega) e_model h17) (cwV 1 hC.hts gX11_mixAll_X11_mix rfl rfl rfl (by decide +kernel) ⟨Nat.le_of_ble_eq_true rfl, Nat.le_of_ble_eq_true rfl⟩) e_model rfl rfl (Nat.le_of_ble_eq_true rfl) (Nat.zero_le _) (Nat.zero_le _) rfl dX11_mixAll_17 (fun en2 hw => ?_)
      obtain ⟨e_model, fr⟩ := hw
      have e_mwarr := (fr 101 (by omega)).trans e_mwarr
      have hfr : ∀ j, (j < 100 ∨ 101 ≤ j) → en2 j = en j := fun j o0 => (fr j (by omega)).trans (hfr j o0)
      refine G_iinc hC 3 3 [(3, .int (x3 + (1 : Int32))), (0, .ref (ad 100)), (1, .int x1), (2, .int x2)] rfl rfl (by decide) rfl dX11_mixAll_20 ?_
      refine G_goto hC 2 dX11_mixAll_23 (by decide) ?_
      refine G_lv [1, 2, 3, 0] rfl ?_
      exact ih2 _ _ _ _ _ e_model e_mwarr hfr h
  unfold f_X11_mixAll at h
  have hfr : ∀ j, (j < 100 ∨ 101 ≤ j) → en j = en j := fun _ _ => rfl
  refine G_iconst hC (v := 0) (by decide) dX11_mixAll_0 ?_
  refine G_istore_n hC 3 [(3, .int (0 : Int32)), (0, .ref (ad 100)), (1, .int x1), (2, .int x2)] rfl (by decide) rfl dX11_mixAll_1 ?_
  refine G_lv [1, 2, 3, 0] rfl ?_
  exact hL2 FU _ _ _ _ _ e_model e_mwarr hfr h
def f_X11_digest_L205 (mw : Nat → Int32) (mnames : Nat → Int64) (mtexted : Int32) (mundo : Int32) (mabove : Int64) (mbelow : Int64)  : Nat → Int64 → Int32 → Option (Int64 × Int64)
  | 0, _, _ => none
  | fu + 1, mh, x1 => if (89 : Int32) < 0 ∨ 960 ≤ (89 : Int32).toNatClampNeg then none else (if mw (89 : Int32).toNatClampNeg ≤ x1 then (Option.bind (f_X11_mixAll mw mh (102 : Int32) (8 : Int32)) (fun q255 => Option.bind (f_X11_mixAll mw q255 (110 : Int32) (5 : Int32)) (fun q262 => Option.bind (f_X11_mix q262 mabove) (fun q270 => Option.bind (f_X11_mix q270 mbelow) (fun q278 => some (q278, q278)))))) else (if (90 : Int32) + x1 < 0 ∨ 960 ≤ ((90 : Int32) + x1).toNatClampNeg then none else (Option.bind (f_X11_mix mh ((mw ((90 : Int32) + x1).toNatClampNeg).toInt64)) (fun q227 => if (96 : Int32) + x1 < 0 ∨ 960 ≤ ((96 : Int32) + x1).toNatClampNeg then none else (Option.bind (f_X11_mix q227 ((mw ((96 : Int32) + x1).toNatClampNeg).toInt64)) (fun q241 => f_X11_digest_L205 mw mnames mtexted mundo mabove mbelow fu q241 (x1 + (1 : Int32))))))))
def f_X11_digest_L144 (mw : Nat → Int32) (mnames : Nat → Int64) (mtexted : Int32) (mundo : Int32) (mabove : Int64) (mbelow : Int64)  : Nat → Int64 → Int32 → Option (Int64 × Int64)
  | 0, _, _ => none
  | fu + 1, mh, x1 => if (73 : Int32) < 0 ∨ 960 ≤ (73 : Int32).toNatClampNeg then none else (if mw (73 : Int32).toNatClampNeg ≤ x1 then (f_X11_digest_L205 mw mnames mtexted mundo mabove mbelow FU mh (0 : Int32)) else (if (74 : Int32) + x1 < 0 ∨ 960 ≤ ((74 : Int32) + x1).toNatClampNeg then none else (Option.bind (f_X11_mix mh ((mw ((74 : Int32) + x1).toNatClampNeg).toInt64)) (fun q166 => if (79 : Int32) + x1 < 0 ∨ 960 ≤ ((79 : Int32) + x1).toNatClampNeg then none else (Option.bind (f_X11_mix q166 ((mw ((79 : Int32) + x1).toNatClampNeg).toInt64)) (fun q180 => if (84 : Int32) + x1 < 0 ∨ 960 ≤ ((84 : Int32) + x1).toNatClampNeg then none else (Option.bind (f_X11_mix q180 ((mw ((84 : Int32) + x1).toNatClampNeg).toInt64)) (fun q194 => f_X11_digest_L144 mw mnames mtexted mundo mabove mbelow fu q194 (x1 + (1 : Int32))))))))))
def f_X11_digest_L33 (mw : Nat → Int32) (mnames : Nat → Int64) (mtexted : Int32) (mundo : Int32) (mabove : Int64) (mbelow : Int64)  : Nat → Int64 → Int32 → Option (Int64 × Int64)
  | 0, _, _ => none
  | fu + 1, mh, x1 => if (0 : Int32) < 0 ∨ 960 ≤ (0 : Int32).toNatClampNeg then none else (if mw (0 : Int32).toNatClampNeg ≤ x1 then (f_X11_digest_L144 mw mnames mtexted mundo mabove mbelow FU mh (0 : Int32)) else (if x1 < 0 ∨ 96 ≤ x1.toNatClampNeg then none else (Option.bind (f_X11_mix mh (mnames x1.toNatClampNeg)) (fun q50 => if (1 : Int32) + x1 < 0 ∨ 960 ≤ ((1 : Int32) + x1).toNatClampNeg then none else (Option.bind (f_X11_mix q50 ((mw ((1 : Int32) + x1).toNatClampNeg).toInt64)) (fun q63 => if (13 : Int32) + x1 < 0 ∨ 960 ≤ ((13 : Int32) + x1).toNatClampNeg then none else (Option.bind (f_X11_mix q63 ((mw ((13 : Int32) + x1).toNatClampNeg).toInt64)) (fun q77 => if (25 : Int32) + x1 < 0 ∨ 960 ≤ ((25 : Int32) + x1).toNatClampNeg then none else (Option.bind (f_X11_mix q77 ((mw ((25 : Int32) + x1).toNatClampNeg).toInt64)) (fun q91 => if (37 : Int32) + x1 < 0 ∨ 960 ≤ ((37 : Int32) + x1).toNatClampNeg then none else (Option.bind (f_X11_mix q91 ((mw ((37 : Int32) + x1).toNatClampNeg).toInt64)) (fun q105 => if (49 : Int32) + x1 < 0 ∨ 960 ≤ ((49 : Int32) + x1).toNatClampNeg then none else (Option.bind (f_X11_mix q105 ((mw ((49 : Int32) + x1).toNatClampNeg).toInt64)) (fun q119 => if (61 : Int32) + x1 < 0 ∨ 960 ≤ ((61 : Int32) + x1).toNatClampNeg then none else (Option.bind (f_X11_mix q119 ((mw ((61 : Int32) + x1).toNatClampNeg).toInt64)) (fun q133 => f_X11_digest_L33 mw mnames mtexted mundo mabove mbelow fu q133 (x1 + (1 : Int32))))))))))))))))))
def f_X11_digest_L9 (mw : Nat → Int32) (mnames : Nat → Int64) (mtexted : Int32) (mundo : Int32) (mabove : Int64) (mbelow : Int64)  : Nat → Int64 → Int32 → Option (Int64 × Int64)
  | 0, _, _ => none
  | fu + 1, mh, x1 => if (6 : Int32) ≤ x1 then (f_X11_digest_L33 mw mnames mtexted mundo mabove mbelow FU mh (0 : Int32)) else (Option.bind (f_X11_countOf mw mtexted mundo x1) (fun q18 => Option.bind (f_X11_mix mh q18.toInt64) (fun q22 => f_X11_digest_L9 mw mnames mtexted mundo mabove mbelow fu q22 (x1 + (1 : Int32)))))
def f_X11_digest (mw : Nat → Int32) (mnames : Nat → Int64) (mtexted : Int32) (mundo : Int32) (mabove : Int64) (mbelow : Int64) (mh : Int64)  : Option (Int64 × Int64) := f_X11_digest_L9 mw mnames mtexted mundo mabove mbelow FU (701 : Int64) (0 : Int32)
set_option maxHeartbeats 4000000 in
set_option maxRecDepth 100000 in
theorem c_X11_digest {D : va_G} {cs : Nat → ClassId} {sa : Nat → Nat} {n : Nat} {ad : Nat → Nat} {A : Nat → Prop} (l : Launch) {en : Nat → va_E}  {mw : Nat → Int32} {mnames : Nat → Int64} {mtexted : Int32} {mundo : Int32} {mabove : Int64} {mbelow : Int64} {mitems : Int32} {mat : Int32} {mfault : Int32} {mtakes : Int32} {mmisses : Int64} {mbest : Int64} {mh : Int64}   {q : Int64 × Int64} (hn : 110 ≤ n) (e_model : en 100 = .inr (8, [.ref (ad 101), .ref (ad 102), .ref (ad 103), .ref (ad 104), .int mtexted, .int mundo, .long mabove, .long mbelow, .ref (ad 105), .ref (ad 106), .ref (ad 107), .ref (ad 108), .int mitems, .int mat, .int mfault, .int mtakes, .long mmisses, .long mbest, .ref (ad 109), .long mh])) (e_mwarr : en 101 = .inl (cs 1, 960, .inl (mw))) (e_mnamesarr : en 102 = .inl (cs 2, 96, .inr (.inl (mnames)))) (h : f_X11_digest mw mnames mtexted mundo mabove mbelow mh = some q) : Met l yX11_digest wsX11_digest { frames := 2, cells := 0, slots := 0, locals := 45 } (va_Pc [.ref (ad 100)] (Wd D cs sa n ad A en)) (va_Ql (fun r u => q.1 = r ∧ u 100 = .inr (8, [.ref (ad 101), .ref (ad 102), .ref (ad 103), .ref (ad 104), .int mtexted, .int mundo, .long mabove, .long mbelow, .ref (ad 105), .ref (ad 106), .ref (ad 107), .ref (ad 108), .int mitems, .int mat, .int mfault, .int mtakes, .long mmisses, .long mbest, .ref (ad 109), .long q.2]) ∧ (∀ j, (j < 100 ∨ 101 ≤ j) → u j = en j)) (Wd D cs sa n ad A) A) 0 0 A := by
  refine G_startL cX11_digest 2 [(0, .ref (ad 100))] (by decide) rfl (Nat.le_of_ble_eq_true rfl) rfl ?_
  intro p e s m args below meth c Q hC hnm Kr
  have inX11 : ∀ w ∈ u_ws RX11 TX11 20, w ∈ wsX11_digest := by decide +kernel
  have k272 : Cond.constantLong RX11 272 (701) ∈ wsX11_digest := by decide +kernel
  have m13 : Cond.fieldLink RX11 13 "TongueTipModel" "names" "[J" ∈ wsX11_digest := by decide +kernel
  have m201 : Cond.fieldLink RX11 201 "TongueTipModel" "above" "J" ∈ wsX11_digest := by decide +kernel
  have m24 : Cond.fieldLink RX11 24 "TongueTipModel" "below" "J" ∈ wsX11_digest := by decide +kernel
  have m265 : Cond.fieldLink RX11 265 "TongueTipModel" "h" "J" ∈ wsX11_digest := by decide +kernel
  have m7 : Cond.fieldLink RX11 7 "TongueTipModel" "w" "[I" ∈ wsX11_digest := by decide +kernel
  have hL205 : ∀ (fu205 : Nat), ∀ (en1 : Nat → va_E) (mh : Int64) (x1 : Int32), en1 100 = .inr (8, [.ref (ad 101), .ref (ad 102), .ref (ad 103), .ref (ad 104), .int mtexted, .int mundo, .long mabove, .long mbelow, .ref (ad 105), .ref (ad 106), .ref (ad 107), .ref (ad 108), .int mitems, .int mat, .int mfault, .int mtakes, .long mmisses, .long mbest, .ref (ad 109), .long mh]) → en1 101 = .inl (cs 1, 960, .inl (mw)) → en1 102 = .inl (cs 2, 96, .inr (.inl (mnames))) → (∀ j, (j < 100 ∨ 101 ≤ j) → en1 j = en j) → f_X11_digest_L205 mw mnames mtexted mundo mabove mbelow fu205 mh x1 = some q → G p l e ({ frames := 2, cells := 0, slots := 0, locals := 45 } : Room) s m args below meth c D n ad A 2 0 0 Q en1 205 [(0, .ref (ad 100)), (1, .int x1)] [] := by
    intro fu205
    induction fu205 with
    | zero =>
      intro en1 mh x1 e_model e_mwarr e_mnamesarr hfr h
      rw [f_X11_digest_L205] at h
      cases h
    | succ fu205 ih205 =>
      intro en1 mh x1 e_model e_mwarr e_mnamesarr hfr h
      rw [f_X11_digest_L205] at h
      refine G_iload_n hC 1 1 rfl rfl dX11_digest_205 ?_
      refine G_aload_n hC 0 0 rfl rfl dX11_digest_206 ?_
      refine G_get hC inX11 100 (by omega) (v := .ref (ad 101)) e_model rfl 0 (by decide) m7 rfl rfl dX11_digest_207 ?_
      refine G_bipush hC (v := 89) (by decide) dX11_digest_210 ?_
      obtain ⟨g212, h⟩ := asn h
      refine G_iald hC 101 (by omega) e_mwarr g212 dX11_digest_212 ?_
      refine G_icmp_ge hC 250 dX11_digest_213 (by decide) (fun c213 => ?_) (fun c213 => ?_)
      · have h := ifp c213 h
        refine G_aload_n hC 0 0 rfl rfl dX11_digest_250 ?_
        refine G_bipush hC (v := 102) (by decide) dX11_digest_251 ?_
        refine G_bipush hC (v := 8) (by decide) dX11_digest_253 ?_
        obtain ⟨q255, h255, h⟩ := bnd h
        refine G_cVv (st := []) hC _ 100 (by omega) (c_X11_mixAll  l (by omega) e_model e_mwarr h255) (cwV 2 hC.hts gX11_digest_X11_mixAll rfl rfl rfl (by decide +kernel) ⟨Nat.le_of_ble_eq_true rfl, Nat.le_of_ble_eq_true rfl⟩) e_model rfl rfl (Nat.le_of_ble_eq_true rfl) (Nat.zero_le _) (Nat.zero_le _) rfl dX11_digest_255 (fun en2 hw => ?_)
        obtain ⟨e_model, fr⟩ := hw
        have e_mwarr := (fr 101 (by omega)).trans e_mwarr
        have e_mnamesarr := (fr 102 (by omega)).trans e_mnamesarr
        have hfr : ∀ j, (j < 100 ∨ 101 ≤ j) → en2 j = en j := fun j o0 => (fr j (by omega)).trans (hfr j o0)
        refine G_aload_n hC 0 0 rfl rfl dX11_digest_258 ?_
        refine G_bipush hC (v := 110) (by decide) dX11_digest_259 ?_
        refine G_iconst hC (v := 5) (by decide) dX11_digest_261 ?_
        obtain ⟨q262, h262, h⟩ := bnd h
        refine G_cVv (st := []) hC _ 100 (by omega) (c_X11_mixAll  l (by omega) e_model e_mwarr h262) (cwV 2 hC.hts gX11_digest_X11_mixAll rfl rfl rfl (by decide +kernel) ⟨Nat.le_of_ble_eq_true rfl, Nat.le_of_ble_eq_true rfl⟩) e_model rfl rfl (Nat.le_of_ble_eq_true rfl) (Nat.zero_le _) (Nat.zero_le _) rfl dX11_digest_262 (fun en3 hw => ?_)
        obtain ⟨e_model, fr⟩ := hw
        have e_mwarr := (fr 101 (by omega)).trans e_mwarr
        have e_mnamesarr := (fr 102 (by omega)).trans e_mnamesarr
        have hfr : ∀ j, (j < 100 ∨ 101 ≤ j) → en3 j = en j := fun j o0 => (fr j (by omega)).trans (hfr j o0)
        refine G_aload_n hC 0 0 rfl rfl dX11_digest_265 ?_
        refine G_aload_n hC 0 0 rfl rfl dX11_digest_266 ?_
        refine G_get hC inX11 100 (by omega) (v := .long mabove) e_model rfl 6 (by decide) m201 rfl rfl dX11_digest_267 ?_
        obtain ⟨q270, h270, h⟩ := bnd h
        refine G_cVv (st := []) hC _ 100 (by omega) (c_X11_mix  l (by omega) e_model h270) (cwV 1 hC.hts gX11_digest_X11_mix rfl rfl rfl (by decide +kernel) ⟨Nat.le_of_ble_eq_true rfl, Nat.le_of_ble_eq_true rfl⟩) e_model rfl rfl (Nat.le_of_ble_eq_true rfl) (Nat.zero_le _) (Nat.zero_le _) rfl dX11_digest_270 (fun en4 hw => ?_)
        obtain ⟨e_model, fr⟩ := hw
        have e_mwarr := (fr 101 (by omega)).trans e_mwarr
        have e_mnamesarr := (fr 102 (by omega)).trans e_mnamesarr
        have hfr : ∀ j, (j < 100 ∨ 101 ≤ j) → en4 j = en j := fun j o0 => (fr j (by omega)).trans (hfr j o0)
        refine G_aload_n hC 0 0 rfl rfl dX11_digest_273 ?_
        refine G_aload_n hC 0 0 rfl rfl dX11_digest_274 ?_
        refine G_get hC inX11 100 (by omega) (v := .long mbelow) e_model rfl 7 (by decide) m24 rfl rfl dX11_digest_275 ?_
        obtain ⟨q278, h278, h⟩ := bnd h
        refine G_cVv (st := []) hC _ 100 (by omega) (c_X11_mix  l (by omega) e_model h278) (cwV 1 hC.hts gX11_digest_X11_mix rfl rfl rfl (by decide +kernel) ⟨Nat.le_of_ble_eq_true rfl, Nat.le_of_ble_eq_true rfl⟩) e_model rfl rfl (Nat.le_of_ble_eq_true rfl) (Nat.zero_le _) (Nat.zero_le _) rfl dX11_digest_278 (fun en5 hw => ?_)
        obtain ⟨e_model, fr⟩ := hw
        have e_mwarr := (fr 101 (by omega)).trans e_mwarr
        have e_mnamesarr := (fr 102 (by omega)).trans e_mnamesarr
        have hfr : ∀ j, (j < 100 ∨ 101 ≤ j) → en5 j = en j := fun j o0 => (fr j (by omega)).trans (hfr j o0)
        refine G_aload_n hC 0 0 rfl rfl dX11_digest_281 ?_
        refine G_get hC inX11 100 (by omega) (v := .long q278) e_model rfl 19 (by decide) m265 rfl rfl dX11_digest_282 ?_
        have h := Option.some.inj h
        subst h
        exact Kr _ _ _ _ ⟨rfl, e_model, hfr⟩ dX11_digest_285
      have h := ifn c213 h
      refine G_aload_n hC 0 0 rfl rfl dX11_digest_216 ?_
      refine G_aload_n hC 0 0 rfl rfl dX11_digest_217 ?_
      refine G_get hC inX11 100 (by omega) (v := .ref (ad 101)) e_model rfl 0 (by decide) m7 rfl rfl dX11_digest_218 ?_
      refine G_bipush hC (v := 90) (by decide) dX11_digest_221 ?_
      refine G_iload_n hC 1 1 rfl rfl dX11_digest_223 ?_
      refine G_iadd hC dX11_digest_224 ?_
      obtain ⟨g225, h⟩ := asn h
      refine G_iald hC 101 (by omega) e_mwarr g225 dX11_digest_225 ?_
      refine G_i2l hC dX11_digest_226 ?_
      obtain ⟨q227, h227, h⟩ := bnd h
      refine G_cVv (st := []) hC _ 100 (by omega) (c_X11_mix  l (by omega) e_model h227) (cwV 1 hC.hts gX11_digest_X11_mix rfl rfl rfl (by decide +kernel) ⟨Nat.le_of_ble_eq_true rfl, Nat.le_of_ble_eq_true rfl⟩) e_model rfl rfl (Nat.le_of_ble_eq_true rfl) (Nat.zero_le _) (Nat.zero_le _) rfl dX11_digest_227 (fun en6 hw => ?_)
      obtain ⟨e_model, fr⟩ := hw
      have e_mwarr := (fr 101 (by omega)).trans e_mwarr
      have e_mnamesarr := (fr 102 (by omega)).trans e_mnamesarr
      have hfr : ∀ j, (j < 100 ∨ 101 ≤ j) → en6 j = en j := fun j o0 => (fr j (by omega)).trans (hfr j o0)
      refine G_aload_n hC 0 0 rfl rfl dX11_digest_230 ?_
      refine G_aload_n hC 0 0 rfl rfl dX11_digest_231 ?_
      refine G_get hC inX11 100 (by omega) (v := .ref (ad 101)) e_model rfl 0 (by decide) m7 rfl rfl dX11_digest_232 ?_
      refine G_bipush hC (v := 96) (by decide) dX11_digest_235 ?_
      refine G_iload_n hC 1 1 rfl rfl dX11_digest_237 ?_
      refine G_iadd hC dX11_digest_238 ?_
      obtain ⟨g239, h⟩ := asn h
      refine G_iald hC 101 (by omega) e_mwarr g239 dX11_digest_239 ?_
      refine G_i2l hC dX11_digest_240 ?_
      obtain ⟨q241, h241, h⟩ := bnd h
      refine G_cVv (st := []) hC _ 100 (by omega) (c_X11_mix  l (by omega) e_model h241) (cwV 1 hC.hts gX11_digest_X11_mix rfl rfl rfl (by decide +kernel) ⟨Nat.le_of_ble_eq_true rfl, Nat.le_of_ble_eq_true rfl⟩) e_model rfl rfl (Nat.le_of_ble_eq_true rfl) (Nat.zero_le _) (Nat.zero_le _) rfl dX11_digest_241 (fun en7 hw => ?_)
      obtain ⟨e_model, fr⟩ := hw
      have e_mwarr := (fr 101 (by omega)).trans e_mwarr
      have e_mnamesarr := (fr 102 (by omega)).trans e_mnamesarr
      have hfr : ∀ j, (j < 100 ∨ 101 ≤ j) → en7 j = en j := fun j o0 => (fr j (by omega)).trans (hfr j o0)
      refine G_iinc hC 1 1 [(1, .int (x1 + (1 : Int32))), (0, .ref (ad 100))] rfl rfl (by decide) rfl dX11_digest_244 ?_
      refine G_goto hC 205 dX11_digest_247 (by decide) ?_
      refine G_lv [1, 0] rfl ?_
      exact ih205 _ _ _ e_model e_mwarr e_mnamesarr hfr h
  have hL144 : ∀ (fu144 : Nat), ∀ (en1 : Nat → va_E) (mh : Int64) (x1 : Int32), en1 100 = .inr (8, [.ref (ad 101), .ref (ad 102), .ref (ad 103), .ref (ad 104), .int mtexted, .int mundo, .long mabove, .long mbelow, .ref (ad 105), .ref (ad 106), .ref (ad 107), .ref (ad 108), .int mitems, .int mat, .int mfault, .int mtakes, .long mmisses, .long mbest, .ref (ad 109), .long mh]) → en1 101 = .inl (cs 1, 960, .inl (mw)) → en1 102 = .inl (cs 2, 96, .inr (.inl (mnames))) → (∀ j, (j < 100 ∨ 101 ≤ j) → en1 j = en j) → f_X11_digest_L144 mw mnames mtexted mundo mabove mbelow fu144 mh x1 = some q → G p l e ({ frames := 2, cells := 0, slots := 0, locals := 45 } : Room) s m args below meth c D n ad A 2 0 0 Q en1 144 [(0, .ref (ad 100)), (1, .int x1)] [] := by
    intro fu144
    induction fu144 with
    | zero =>
      intro en1 mh x1 e_model e_mwarr e_mnamesarr hfr h
      rw [f_X11_digest_L144] at h
      cases h
    | succ fu144 ih144 =>
      intro en1 mh x1 e_model e_mwarr e_mnamesarr hfr h
      rw [f_X11_digest_L144] at h
      refine G_iload_n hC 1 1 rfl rfl dX11_digest_144 ?_
      refine G_aload_n hC 0 0 rfl rfl dX11_digest_145 ?_
      refine G_get hC inX11 100 (by omega) (v := .ref (ad 101)) e_model rfl 0 (by decide) m7 rfl rfl dX11_digest_146 ?_
      refine G_bipush hC (v := 73) (by decide) dX11_digest_149 ?_
      obtain ⟨g151, h⟩ := asn h
      refine G_iald hC 101 (by omega) e_mwarr g151 dX11_digest_151 ?_
      refine G_icmp_ge hC 203 dX11_digest_152 (by decide) (fun c152 => ?_) (fun c152 => ?_)
      · have h := ifp c152 h
        refine G_iconst hC (v := 0) (by decide) dX11_digest_203 ?_
        refine G_istore_n hC 1 [(1, .int (0 : Int32)), (0, .ref (ad 100))] rfl (by decide) rfl dX11_digest_204 ?_
        refine G_lv [1, 0] rfl ?_
        exact hL205 FU _ _ _ e_model e_mwarr e_mnamesarr hfr h
      have h := ifn c152 h
      refine G_aload_n hC 0 0 rfl rfl dX11_digest_155 ?_
      refine G_aload_n hC 0 0 rfl rfl dX11_digest_156 ?_
      refine G_get hC inX11 100 (by omega) (v := .ref (ad 101)) e_model rfl 0 (by decide) m7 rfl rfl dX11_digest_157 ?_
      refine G_bipush hC (v := 74) (by decide) dX11_digest_160 ?_
      refine G_iload_n hC 1 1 rfl rfl dX11_digest_162 ?_
      refine G_iadd hC dX11_digest_163 ?_
      obtain ⟨g164, h⟩ := asn h
      refine G_iald hC 101 (by omega) e_mwarr g164 dX11_digest_164 ?_
      refine G_i2l hC dX11_digest_165 ?_
      obtain ⟨q166, h166, h⟩ := bnd h
      refine G_cVv (st := []) hC _ 100 (by omega) (c_X11_mix  l (by omega) e_model h166) (cwV 1 hC.hts gX11_digest_X11_mix rfl rfl rfl (by decide +kernel) ⟨Nat.le_of_ble_eq_true rfl, Nat.le_of_ble_eq_true rfl⟩) e_model rfl rfl (Nat.le_of_ble_eq_true rfl) (Nat.zero_le _) (Nat.zero_le _) rfl dX11_digest_166 (fun en2 hw => ?_)
      obtain ⟨e_model, fr⟩ := hw
      have e_mwarr := (fr 101 (by omega)).trans e_mwarr
      have e_mnamesarr := (fr 102 (by omega)).trans e_mnamesarr
      have hfr : ∀ j, (j < 100 ∨ 101 ≤ j) → en2 j = en j := fun j o0 => (fr j (by omega)).trans (hfr j o0)
      refine G_aload_n hC 0 0 rfl rfl dX11_digest_169 ?_
      refine G_aload_n hC 0 0 rfl rfl dX11_digest_170 ?_
      refine G_get hC inX11 100 (by omega) (v := .ref (ad 101)) e_model rfl 0 (by decide) m7 rfl rfl dX11_digest_171 ?_
      refine G_bipush hC (v := 79) (by decide) dX11_digest_174 ?_
      refine G_iload_n hC 1 1 rfl rfl dX11_digest_176 ?_
      refine G_iadd hC dX11_digest_177 ?_
      obtain ⟨g178, h⟩ := asn h
      refine G_iald hC 101 (by omega) e_mwarr g178 dX11_digest_178 ?_
      refine G_i2l hC dX11_digest_179 ?_
      obtain ⟨q180, h180, h⟩ := bnd h
      refine G_cVv (st := []) hC _ 100 (by omega) (c_X11_mix  l (by omega) e_model h180) (cwV 1 hC.hts gX11_digest_X11_mix rfl rfl rfl (by decide +kernel) ⟨Nat.le_of_ble_eq_true rfl, Nat.le_of_ble_eq_true rfl⟩) e_model rfl rfl (Nat.le_of_ble_eq_true rfl) (Nat.zero_le _) (Nat.zero_le _) rfl dX11_digest_180 (fun en3 hw => ?_)
      obtain ⟨e_model, fr⟩ := hw
      have e_mwarr := (fr 101 (by omega)).trans e_mwarr
      have e_mnamesarr := (fr 102 (by omega)).trans e_mnamesarr
      have hfr : ∀ j, (j < 100 ∨ 101 ≤ j) → en3 j = en j := fun j o0 => (fr j (by omega)).trans (hfr j o0)
      refine G_aload_n hC 0 0 rfl rfl dX11_digest_183 ?_
      refine G_aload_n hC 0 0 rfl rfl dX11_digest_184 ?_
      refine G_get hC inX11 100 (by omega) (v := .ref (ad 101)) e_model rfl 0 (by decide) m7 rfl rfl dX11_digest_185 ?_
      refine G_bipush hC (v := 84) (by decide) dX11_digest_188 ?_
      refine G_iload_n hC 1 1 rfl rfl dX11_digest_190 ?_
      refine G_iadd hC dX11_digest_191 ?_
      obtain ⟨g192, h⟩ := asn h
      refine G_iald hC 101 (by omega) e_mwarr g192 dX11_digest_192 ?_
      refine G_i2l hC dX11_digest_193 ?_
      obtain ⟨q194, h194, h⟩ := bnd h
      refine G_cVv (st := []) hC _ 100 (by omega) (c_X11_mix  l (by omega) e_model h194) (cwV 1 hC.hts gX11_digest_X11_mix rfl rfl rfl (by decide +kernel) ⟨Nat.le_of_ble_eq_true rfl, Nat.le_of_ble_eq_true rfl⟩) e_model rfl rfl (Nat.le_of_ble_eq_true rfl) (Nat.zero_le _) (Nat.zero_le _) rfl dX11_digest_194 (fun en4 hw => ?_)
      obtain ⟨e_model, fr⟩ := hw
      have e_mwarr := (fr 101 (by omega)).trans e_mwarr
      have e_mnamesarr := (fr 102 (by omega)).trans e_mnamesarr
      have hfr : ∀ j, (j < 100 ∨ 101 ≤ j) → en4 j = en j := fun j o0 => (fr j (by omega)).trans (hfr j o0)
      refine G_iinc hC 1 1 [(1, .int (x1 + (1 : Int32))), (0, .ref (ad 100))] rfl rfl (by decide) rfl dX11_digest_197 ?_
      refine G_goto hC 144 dX11_digest_200 (by decide) ?_
      refine G_lv [1, 0] rfl ?_
      exact ih144 _ _ _ e_model e_mwarr e_mnamesarr hfr h
  have hL33 : ∀ (fu33 : Nat), ∀ (en1 : Nat → va_E) (mh : Int64) (x1 : Int32), en1 100 = .inr (8, [.ref (ad 101), .ref (ad 102), .ref (ad 103), .ref (ad 104), .int mtexted, .int mundo, .long mabove, .long mbelow, .ref (ad 105), .ref (ad 106), .ref (ad 107), .ref (ad 108), .int mitems, .int mat, .int mfault, .int mtakes, .long mmisses, .long mbest, .ref (ad 109), .long mh]) → en1 101 = .inl (cs 1, 960, .inl (mw)) → en1 102 = .inl (cs 2, 96, .inr (.inl (mnames))) → (∀ j, (j < 100 ∨ 101 ≤ j) → en1 j = en j) → f_X11_digest_L33 mw mnames mtexted mundo mabove mbelow fu33 mh x1 = some q → G p l e ({ frames := 2, cells := 0, slots := 0, locals := 45 } : Room) s m args below meth c D n ad A 2 0 0 Q en1 33 [(0, .ref (ad 100)), (1, .int x1)] [] := by
    intro fu33
    induction fu33 with
    | zero =>
      intro en1 mh x1 e_model e_mwarr e_mnamesarr hfr h
      rw [f_X11_digest_L33] at h
      cases h
    | succ fu33 ih33 =>
      intro en1 mh x1 e_model e_mwarr e_mnamesarr hfr h
      rw [f_X11_digest_L33] at h
      refine G_iload_n hC 1 1 rfl rfl dX11_digest_33 ?_
      refine G_aload_n hC 0 0 rfl rfl dX11_digest_34 ?_
      refine G_get hC inX11 100 (by omega) (v := .ref (ad 101)) e_model rfl 0 (by decide) m7 rfl rfl dX11_digest_35 ?_
      refine G_iconst hC (v := 0) (by decide) dX11_digest_38 ?_
      obtain ⟨g39, h⟩ := asn h
      refine G_iald hC 101 (by omega) e_mwarr g39 dX11_digest_39 ?_
      refine G_icmp_ge hC 142 dX11_digest_40 (by decide) (fun c40 => ?_) (fun c40 => ?_)
      · have h := ifp c40 h
        refine G_iconst hC (v := 0) (by decide) dX11_digest_142 ?_
        refine G_istore_n hC 1 [(1, .int (0 : Int32)), (0, .ref (ad 100))] rfl (by decide) rfl dX11_digest_143 ?_
        refine G_lv [1, 0] rfl ?_
        exact hL144 FU _ _ _ e_model e_mwarr e_mnamesarr hfr h
      have h := ifn c40 h
      refine G_aload_n hC 0 0 rfl rfl dX11_digest_43 ?_
      refine G_aload_n hC 0 0 rfl rfl dX11_digest_44 ?_
      refine G_get hC inX11 100 (by omega) (v := .ref (ad 102)) e_model rfl 1 (by decide) m13 rfl rfl dX11_digest_45 ?_
      refine G_iload_n hC 1 1 rfl rfl dX11_digest_48 ?_
      obtain ⟨g49, h⟩ := asn h
      refine G_lald hC 102 (by omega) e_mnamesarr g49 dX11_digest_49 ?_
      obtain ⟨q50, h50, h⟩ := bnd h
      refine G_cVv (st := []) hC _ 100 (by omega) (c_X11_mix  l (by omega) e_model h50) (cwV 1 hC.hts gX11_digest_X11_mix rfl rfl rfl (by decide +kernel) ⟨Nat.le_of_ble_eq_true rfl, Nat.le_of_ble_eq_true rfl⟩) e_model rfl rfl (Nat.le_of_ble_eq_true rfl) (Nat.zero_le _) (Nat.zero_le _) rfl dX11_digest_50 (fun en2 hw => ?_)
      obtain ⟨e_model, fr⟩ := hw
      have e_mwarr := (fr 101 (by omega)).trans e_mwarr
      have e_mnamesarr := (fr 102 (by omega)).trans e_mnamesarr
      have hfr : ∀ j, (j < 100 ∨ 101 ≤ j) → en2 j = en j := fun j o0 => (fr j (by omega)).trans (hfr j o0)
      refine G_aload_n hC 0 0 rfl rfl dX11_digest_53 ?_
      refine G_aload_n hC 0 0 rfl rfl dX11_digest_54 ?_
      refine G_get hC inX11 100 (by omega) (v := .ref (ad 101)) e_model rfl 0 (by decide) m7 rfl rfl dX11_digest_55 ?_
      refine G_iconst hC (v := 1) (by decide) dX11_digest_58 ?_
      refine G_iload_n hC 1 1 rfl rfl dX11_digest_59 ?_
      refine G_iadd hC dX11_digest_60 ?_
      obtain ⟨g61, h⟩ := asn h
      refine G_iald hC 101 (by omega) e_mwarr g61 dX11_digest_61 ?_
      refine G_i2l hC dX11_digest_62 ?_
      obtain ⟨q63, h63, h⟩ := bnd h
      refine G_cVv (st := []) hC _ 100 (by omega) (c_X11_mix  l (by omega) e_model h63) (cwV 1 hC.hts gX11_digest_X11_mix rfl rfl rfl (by decide +kernel) ⟨Nat.le_of_ble_eq_true rfl, Nat.le_of_ble_eq_true rfl⟩) e_model rfl rfl (Nat.le_of_ble_eq_true rfl) (Nat.zero_le _) (Nat.zero_le _) rfl dX11_digest_63 (fun en3 hw => ?_)
      obtain ⟨e_model, fr⟩ := hw
      have e_mwarr := (fr 101 (by omega)).trans e_mwarr
      have e_mnamesarr := (fr 102 (by omega)).trans e_mnamesarr
      have hfr : ∀ j, (j < 100 ∨ 101 ≤ j) → en3 j = en j := fun j o0 => (fr j (by omega)).trans (hfr j o0)
      refine G_aload_n hC 0 0 rfl rfl dX11_digest_66 ?_
      refine G_aload_n hC 0 0 rfl rfl dX11_digest_67 ?_
      refine G_get hC inX11 100 (by omega) (v := .ref (ad 101)) e_model rfl 0 (by decide) m7 rfl rfl dX11_digest_68 ?_
      refine G_bipush hC (v := 13) (by decide) dX11_digest_71 ?_
      refine G_iload_n hC 1 1 rfl rfl dX11_digest_73 ?_
      refine G_iadd hC dX11_digest_74 ?_
      obtain ⟨g75, h⟩ := asn h
      refine G_iald hC 101 (by omega) e_mwarr g75 dX11_digest_75 ?_
      refine G_i2l hC dX11_digest_76 ?_
      obtain ⟨q77, h77, h⟩ := bnd h
      refine G_cVv (st := []) hC _ 100 (by omega) (c_X11_mix  l (by omega) e_model h77) (cwV 1 hC.hts gX11_digest_X11_mix rfl rfl rfl (by decide +kernel) ⟨Nat.le_of_ble_eq_true rfl, Nat.le_of_ble_eq_true rfl⟩) e_model rfl rfl (Nat.le_of_ble_eq_true rfl) (Nat.zero_le _) (Nat.zero_le _) rfl dX11_digest_77 (fun en4 hw => ?_)
      obtain ⟨e_model, fr⟩ := hw
      have e_mwarr := (fr 101 (by omega)).trans e_mwarr
      have e_mnamesarr := (fr 102 (by omega)).trans e_mnamesarr
      have hfr : ∀ j, (j < 100 ∨ 101 ≤ j) → en4 j = en j := fun j o0 => (fr j (by omega)).trans (hfr j o0)
      refine G_aload_n hC 0 0 rfl rfl dX11_digest_80 ?_
      refine G_aload_n hC 0 0 rfl rfl dX11_digest_81 ?_
      refine G_get hC inX11 100 (by omega) (v := .ref (ad 101)) e_model rfl 0 (by decide) m7 rfl rfl dX11_digest_82 ?_
      refine G_bipush hC (v := 25) (by decide) dX11_digest_85 ?_
      refine G_iload_n hC 1 1 rfl rfl dX11_digest_87 ?_
      refine G_iadd hC dX11_digest_88 ?_
      obtain ⟨g89, h⟩ := asn h
      refine G_iald hC 101 (by omega) e_mwarr g89 dX11_digest_89 ?_
      refine G_i2l hC dX11_digest_90 ?_
      obtain ⟨q91, h91, h⟩ := bnd h
      refine G_cVv (st := []) hC _ 100 (by omega) (c_X11_mix  l (by omega) e_model h91) (cwV 1 hC.hts gX11_digest_X11_mix rfl rfl rfl (by decide +kernel) ⟨Nat.le_of_ble_eq_true rfl, Nat.le_of_ble_eq_true rfl⟩) e_model rfl rfl (Nat.le_of_ble_eq_true rfl) (Nat.zero_le _) (Nat.zero_le _) rfl dX11_digest_91 (fun en5 hw => ?_)
      obtain ⟨e_model, fr⟩ := hw
      have e_mwarr := (fr 101 (by omega)).trans e_mwarr
      have e_mnamesarr := (fr 102 (by omega)).trans e_mnamesarr
      have hfr : ∀ j, (j < 100 ∨ 101 ≤ j) → en5 j = en j := fun j o0 => (fr j (by omega)).trans (hfr j o0)
      refine G_aload_n hC 0 0 rfl rfl dX11_digest_94 ?_
      refine G_aload_n hC 0 0 rfl rfl dX11_digest_95 ?_
      refine G_get hC inX11 100 (by omega) (v := .ref (ad 101)) e_model rfl 0 (by decide) m7 rfl rfl dX11_digest_96 ?_
      refine G_bipush hC (v := 37) (by decide) dX11_digest_99 ?_
      refine G_iload_n hC 1 1 rfl rfl dX11_digest_101 ?_
      refine G_iadd hC dX11_digest_102 ?_
      obtain ⟨g103, h⟩ := asn h
      refine G_iald hC 101 (by omega) e_mwarr g103 dX11_digest_103 ?_
      refine G_i2l hC dX11_digest_104 ?_
      obtain ⟨q105, h105, h⟩ := bnd h
      refine G_cVv (st := []) hC _ 100 (by omega) (c_X11_mix  l (by omega) e_model h105) (cwV 1 hC.hts gX11_digest_X11_mix rfl rfl rfl (by decide +kernel) ⟨Nat.le_of_ble_eq_true rfl, Nat.le_of_ble_eq_true rfl⟩) e_model rfl rfl (Nat.le_of_ble_eq_true rfl) (Nat.zero_le _) (Nat.zero_le _) rfl dX11_digest_105 (fun en6 hw => ?_)
      obtain ⟨e_model, fr⟩ := hw
      have e_mwarr := (fr 101 (by omega)).trans e_mwarr
      have e_mnamesarr := (fr 102 (by omega)).trans e_mnamesarr
      have hfr : ∀ j, (j < 100 ∨ 101 ≤ j) → en6 j = en j := fun j o0 => (fr j (by omega)).trans (hfr j o0)
      refine G_aload_n hC 0 0 rfl rfl dX11_digest_108 ?_
      refine G_aload_n hC 0 0 rfl rfl dX11_digest_109 ?_
      refine G_get hC inX11 100 (by omega) (v := .ref (ad 101)) e_model rfl 0 (by decide) m7 rfl rfl dX11_digest_110 ?_
      refine G_bipush hC (v := 49) (by decide) dX11_digest_113 ?_
      refine G_iload_n hC 1 1 rfl rfl dX11_digest_115 ?_
      refine G_iadd hC dX11_digest_116 ?_
      obtain ⟨g117, h⟩ := asn h
      refine G_iald hC 101 (by omega) e_mwarr g117 dX11_digest_117 ?_
      refine G_i2l hC dX11_digest_118 ?_
      obtain ⟨q119, h119, h⟩ := bnd h
      refine G_cVv (st := []) hC _ 100 (by omega) (c_X11_mix  l (by omega) e_model h119) (cwV 1 hC.hts gX11_digest_X11_mix rfl rfl rfl (by decide +kernel) ⟨Nat.le_of_ble_eq_true rfl, Nat.le_of_ble_eq_true rfl⟩) e_model rfl rfl (Nat.le_of_ble_eq_true rfl) (Nat.zero_le _) (Nat.zero_le _) rfl dX11_digest_119 (fun en7 hw => ?_)
      obtain ⟨e_model, fr⟩ := hw
      have e_mwarr := (fr 101 (by omega)).trans e_mwarr
      have e_mnamesarr := (fr 102 (by omega)).trans e_mnamesarr
      have hfr : ∀ j, (j < 100 ∨ 101 ≤ j) → en7 j = en j := fun j o0 => (fr j (by omega)).trans (hfr j o0)
      refine G_aload_n hC 0 0 rfl rfl dX11_digest_122 ?_
      refine G_aload_n hC 0 0 rfl rfl dX11_digest_123 ?_
      refine G_get hC inX11 100 (by omega) (v := .ref (ad 101)) e_model rfl 0 (by decide) m7 rfl rfl dX11_digest_124 ?_
      refine G_bipush hC (v := 61) (by decide) dX11_digest_127 ?_
      refine G_iload_n hC 1 1 rfl rfl dX11_digest_129 ?_
      refine G_iadd hC dX11_digest_130 ?_
      obtain ⟨g131, h⟩ := asn h
      refine G_iald hC 101 (by omega) e_mwarr g131 dX11_digest_131 ?_
      refine G_i2l hC dX11_digest_132 ?_
      obtain ⟨q133, h133, h⟩ := bnd h
      refine G_cVv (st := []) hC _ 100 (by omega) (c_X11_mix  l (by omega) e_model h133) (cwV 1 hC.hts gX11_digest_X11_mix rfl rfl rfl (by decide +kernel) ⟨Nat.le_of_ble_eq_true rfl, Nat.le_of_ble_eq_true rfl⟩) e_model rfl rfl (Nat.le_of_ble_eq_true rfl) (Nat.zero_le _) (Nat.zero_le _) rfl dX11_digest_133 (fun en8 hw => ?_)
      obtain ⟨e_model, fr⟩ := hw
      have e_mwarr := (fr 101 (by omega)).trans e_mwarr
      have e_mnamesarr := (fr 102 (by omega)).trans e_mnamesarr
      have hfr : ∀ j, (j < 100 ∨ 101 ≤ j) → en8 j = en j := fun j o0 => (fr j (by omega)).trans (hfr j o0)
      refine G_iinc hC 1 1 [(1, .int (x1 + (1 : Int32))), (0, .ref (ad 100))] rfl rfl (by decide) rfl dX11_digest_136 ?_
      refine G_goto hC 33 dX11_digest_139 (by decide) ?_
      refine G_lv [1, 0] rfl ?_
      exact ih33 _ _ _ e_model e_mwarr e_mnamesarr hfr h
  have hL9 : ∀ (fu9 : Nat), ∀ (en1 : Nat → va_E) (mh : Int64) (x1 : Int32), en1 100 = .inr (8, [.ref (ad 101), .ref (ad 102), .ref (ad 103), .ref (ad 104), .int mtexted, .int mundo, .long mabove, .long mbelow, .ref (ad 105), .ref (ad 106), .ref (ad 107), .ref (ad 108), .int mitems, .int mat, .int mfault, .int mtakes, .long mmisses, .long mbest, .ref (ad 109), .long mh]) → en1 101 = .inl (cs 1, 960, .inl (mw)) → en1 102 = .inl (cs 2, 96, .inr (.inl (mnames))) → (∀ j, (j < 100 ∨ 101 ≤ j) → en1 j = en j) → f_X11_digest_L9 mw mnames mtexted mundo mabove mbelow fu9 mh x1 = some q → G p l e ({ frames := 2, cells := 0, slots := 0, locals := 45 } : Room) s m args below meth c D n ad A 2 0 0 Q en1 9 [(0, .ref (ad 100)), (1, .int x1)] [] := by
    intro fu9
    induction fu9 with
    | zero =>
      intro en1 mh x1 e_model e_mwarr e_mnamesarr hfr h
      rw [f_X11_digest_L9] at h
      cases h
    | succ fu9 ih9 =>
      intro en1 mh x1 e_model e_mwarr e_mnamesarr hfr h
      rw [f_X11_digest_L9] at h
      refine G_iload_n hC 1 1 rfl rfl dX11_digest_9 ?_
      refine G_bipush hC (v := 6) (by decide) dX11_digest_10 ?_
      refine G_icmp_ge hC 31 dX11_digest_12 (by decide) (fun c12 => ?_) (fun c12 => ?_)
      · have h := ifp c12 h
        refine G_iconst hC (v := 0) (by decide) dX11_digest_31 ?_
        refine G_istore_n hC 1 [(1, .int (0 : Int32)), (0, .ref (ad 100))] rfl (by decide) rfl dX11_digest_32 ?_
        refine G_lv [1, 0] rfl ?_
        exact hL33 FU _ _ _ e_model e_mwarr e_mnamesarr hfr h
      have h := ifn c12 h
      refine G_aload_n hC 0 0 rfl rfl dX11_digest_15 ?_
      refine G_aload_n hC 0 0 rfl rfl dX11_digest_16 ?_
      refine G_iload_n hC 1 1 rfl rfl dX11_digest_17 ?_
      obtain ⟨q18, h18, h⟩ := bnd h
      refine G_cVi (st := [.ref (ad 100)]) hC _ 100 (by omega) (c_X11_countOf  l (by omega) e_model e_mwarr h18) (cwV 1 hC.hts gX11_digest_X11_countOf rfl rfl rfl (by decide +kernel) ⟨Nat.le_of_ble_eq_true rfl, Nat.le_of_ble_eq_true rfl⟩) e_model rfl rfl (Nat.le_of_ble_eq_true rfl) (Nat.zero_le _) (Nat.zero_le _) rfl dX11_digest_18 (fun r18 enx hw => ?_)
      obtain ⟨rfl, rfl⟩ := hw
      refine G_i2l hC dX11_digest_21 ?_
      obtain ⟨q22, h22, h⟩ := bnd h
      refine G_cVv (st := []) hC _ 100 (by omega) (c_X11_mix  l (by omega) e_model h22) (cwV 1 hC.hts gX11_digest_X11_mix rfl rfl rfl (by decide +kernel) ⟨Nat.le_of_ble_eq_true rfl, Nat.le_of_ble_eq_true rfl⟩) e_model rfl rfl (Nat.le_of_ble_eq_true rfl) (Nat.zero_le _) (Nat.zero_le _) rfl dX11_digest_22 (fun en2 hw => ?_)
      obtain ⟨e_model, fr⟩ := hw
      have e_mwarr := (fr 101 (by omega)).trans e_mwarr
      have e_mnamesarr := (fr 102 (by omega)).trans e_mnamesarr
      have hfr : ∀ j, (j < 100 ∨ 101 ≤ j) → en2 j = en j := fun j o0 => (fr j (by omega)).trans (hfr j o0)
      refine G_iinc hC 1 1 [(1, .int (x1 + (1 : Int32))), (0, .ref (ad 100))] rfl rfl (by decide) rfl dX11_digest_25 ?_
      refine G_goto hC 9 dX11_digest_28 (by decide) ?_
      refine G_lv [1, 0] rfl ?_
      exact ih9 _ _ _ e_model e_mwarr e_mnamesarr hfr h
  unfold f_X11_digest at h
  have hfr : ∀ j, (j < 100 ∨ 101 ≤ j) → en j = en j := fun _ _ => rfl
  refine G_aload_n hC 0 0 rfl rfl dX11_digest_0 ?_
  refine G_ldc2 hC (v := (701)) k272 dX11_digest_1 ?_
  refine G_put hC inX11 tyX11 tyX11_ok nmX11 100 (by omega) e_model rfl 19 (by decide) m265 rfl rfl (ty := .long) rfl rfl rfl (Nat.le_of_ble_eq_true rfl) dX11_digest_4 (fun en2 e_model fr => ?_)
  have e_model : en2 100 = .inr (8, [.ref (ad 101), .ref (ad 102), .ref (ad 103), .ref (ad 104), .int mtexted, .int mundo, .long mabove, .long mbelow, .ref (ad 105), .ref (ad 106), .ref (ad 107), .ref (ad 108), .int mitems, .int mat, .int mfault, .int mtakes, .long mmisses, .long mbest, .ref (ad 109), .long (701 : Int64)]) := e_model
  have e_mwarr := (fr 101 (by omega)).trans e_mwarr
  have e_mnamesarr := (fr 102 (by omega)).trans e_mnamesarr
  have hfr : ∀ j, (j < 100 ∨ 101 ≤ j) → en2 j = en j := fun j o0 => (fr j (by omega)).trans (hfr j o0)
  refine G_iconst hC (v := 0) (by decide) dX11_digest_7 ?_
  refine G_istore_n hC 1 [(1, .int (0 : Int32)), (0, .ref (ad 100))] rfl (by decide) rfl dX11_digest_8 ?_
  refine G_lv [1, 0] rfl ?_
  exact hL9 FU _ _ _ e_model e_mwarr e_mnamesarr hfr h
