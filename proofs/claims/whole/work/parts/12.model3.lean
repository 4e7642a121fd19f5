def f_X11_isRow_B81 (mw : Nat → Int32) (rL15 : Int32 → Int32 → Int32 → Option (Int32)) (x3 : Int32) (x4 : Int32) (s0 : Int32) (s1 : Int32) : Option (Int32) := rL15 (s0 ||| s1) x3 (x4 / (10 : Int32))
def f_X11_isRow_B67 (mw : Nat → Int32) (rL15 : Int32 → Int32 → Int32 → Option (Int32)) (x2 : Int32) (x4 : Int32) (x5 : Int32) (s0 : Int32) : Option (Int32) := if s0 = 0 then (f_X11_isRow_B81 mw rL15 s0 x4 x2 (0 : Int32)) else (f_X11_isRow_B81 mw rL15 s0 x4 x2 ((1 : Int32) <<< (x5 &&& (31 : Int32))))
def f_X11_isRow_B66 (mw : Nat → Int32) (rL15 : Int32 → Int32 → Int32 → Option (Int32)) (x2 : Int32) (x4 : Int32) (x5 : Int32) : Option (Int32) := f_X11_isRow_B67 mw rL15 x2 x4 x5 (0 : Int32)
def f_X11_isRow_L15 (mw : Nat → Int32)  : Nat → Int32 → Int32 → Int32 → Option (Int32)
  | 0, _, _, _ => none
  | fu + 1, x2, x3, x4 => if x4 ≤ 0 then (if x3 = 0 ∨ x3 = 1 then (some x3) else none) else (if x3 = 0 then (if x3 = 0 ∨ x3 = 1 then (some x3) else none) else (if (73 : Int32) < 0 ∨ 960 ≤ (73 : Int32).toNatClampNeg then none else (Option.bind (f_X11_in (((irm x4 (10 : Int32)) - (1 : Int32)).toInt64) (0 : Int64) (((mw (73 : Int32).toNatClampNeg) - (1 : Int32)).toInt64)) (fun q47 => if q47 = 0 then (f_X11_isRow_B66 mw (f_X11_isRow_L15 mw fu) x2 x4 ((irm x4 (10 : Int32)) - (1 : Int32))) else (Option.bind (f_X11_holds x2 ((irm x4 (10 : Int32)) - (1 : Int32))) (fun q56 => if q56 = 0 then (f_X11_isRow_B67 mw (f_X11_isRow_L15 mw fu) x2 x4 ((irm x4 (10 : Int32)) - (1 : Int32)) (1 : Int32)) else (f_X11_isRow_B66 mw (f_X11_isRow_L15 mw fu) x2 x4 ((irm x4 (10 : Int32)) - (1 : Int32)))))))))
def f_X11_isRow (mw : Nat → Int32) (x1 : Int32) : Option (Int32) := Option.bind (f_X11_in x1.toInt64 (0 : Int64) (55555 : Int64)) (fun q8 => f_X11_isRow_L15 mw FU (0 : Int32) q8 x1)
set_option maxHeartbeats 4000000 in
set_option maxRecDepth 100000 in
theorem c_X11_isRow {D : va_G} {cs : Nat → ClassId} {sa : Nat → Nat} {n : Nat} {ad : Nat → Nat} {A : Nat → Prop} (l : Launch) {en : Nat → va_E}  {mw : Nat → Int32} {mtexted : Int32} {mundo : Int32} {mabove : Int64} {mbelow : Int64} {mitems : Int32} {mat : Int32} {mfault : Int32} {mtakes : Int32} {mmisses : Int64} {mbest : Int64} {mh : Int64} {x1 : Int32}  {q : Int32} (hn : 110 ≤ n) (e_model : en 100 = .inr (8, [.ref (ad 101), .ref (ad 102), .ref (ad 103), .ref (ad 104), .int mtexted, .int mundo, .long mabove, .long mbelow, .ref (ad 105), .ref (ad 106), .ref (ad 107), .ref (ad 108), .int mitems, .int mat, .int mfault, .int mtakes, .long mmisses, .long mbest, .ref (ad 109), .long mh])) (e_mwarr : en 101 = .inl (cs 1, 960, .inl (mw))) (h : f_X11_isRow mw x1 = some q) : Met l yX11_isRow wsX11_isRow { frames := 1, cells := 0, slots := 0, locals := 25 } (va_Pc [.ref (ad 100), .int x1] (Wd D cs sa n ad A en)) (va_Qi (fun r u => q = r ∧ en = u) (Wd D cs sa n ad A) A) 0 0 A := by
  refine G_startI cX11_isRow 6 [(0, .ref (ad 100)), (1, .int x1)] (by decide) rfl (Nat.le_of_ble_eq_true rfl) rfl ?_
  intro p e s m args below meth c Q hC hnm Kr
  have inX11 : ∀ w ∈ u_ws RX11 TX11 20, w ∈ wsX11_isRow := by decide +kernel
  have k187 : Cond.constantLong RX11 187 (55555) ∈ wsX11_isRow := by decide +kernel
  have m7 : Cond.fieldLink RX11 7 "TongueTipModel" "w" "[I" ∈ wsX11_isRow := by decide +kernel
  have hL15 : ∀ (fu15 : Nat), ∀ (x2 : Int32) (x3 : Int32) (x4 : Int32), f_X11_isRow_L15 mw fu15 x2 x3 x4 = some q → G p l e ({ frames := 1, cells := 0, slots := 0, locals := 25 } : Room) s m args below meth c D n ad A 6 0 0 Q en 15 [(0, .ref (ad 100)), (2, .int x2), (3, .int x3), (4, .int x4)] [] := by
    intro fu15
    induction fu15 with
    | zero =>
      intro x2 x3 x4 h
      rw [f_X11_isRow_L15] at h
      cases h
    | succ fu15 ih15 =>
      have hB81 : ∀ (x3 : Int32) (x4 : Int32) (s0 : Int32) (s1 : Int32), f_X11_isRow_B81 mw (f_X11_isRow_L15 mw fu15) x3 x4 s0 s1 = some q → G p l e ({ frames := 1, cells := 0, slots := 0, locals := 25 } : Room) s m args below meth c D n ad A 6 0 0 Q en 81 [(0, .ref (ad 100)), (3, .int x3), (4, .int x4)] [.int s1, .int s0] := by
        intro x3 x4 s0 s1 h
        unfold f_X11_isRow_B81 at h
        refine G_ior hC dX11_isRow_81 ?_
        refine G_istore_n hC 2 [(2, .int (s0 ||| s1)), (0, .ref (ad 100)), (3, .int x3), (4, .int x4)] rfl (by decide) rfl dX11_isRow_82 ?_
        refine G_iload hC 4 3 rfl dX11_isRow_83 ?_
        refine G_bipush hC (v := 10) (by decide) dX11_isRow_85 ?_
        refine G_idiv hC (by decide) dX11_isRow_87 ?_
        refine G_istore hC 4 [(4, .int (x4 / (10 : Int32))), (2, .int (s0 ||| s1)), (0, .ref (ad 100)), (3, .int x3)] (by decide) rfl dX11_isRow_88 ?_
        refine G_goto hC 15 dX11_isRow_90 (by decide) ?_
        refine G_lv [2, 1, 3, 0] rfl ?_
        exact ih15 _ _ _ h
      have hB67 : ∀ (x2 : Int32) (x4 : Int32) (x5 : Int32) (s0 : Int32), f_X11_isRow_B67 mw (f_X11_isRow_L15 mw fu15) x2 x4 x5 s0 = some q → G p l e ({ frames := 1, cells := 0, slots := 0, locals := 25 } : Room) s m args below meth c D n ad A 6 0 0 Q en 67 [(0, .ref (ad 100)), (2, .int x2), (4, .int x4), (5, .int x5)] [.int s0] := by
        intro x2 x4 x5 s0 h
        unfold f_X11_isRow_B67 at h
        refine G_istore_n hC 3 [(3, .int s0), (0, .ref (ad 100)), (2, .int x2), (4, .int x4), (5, .int x5)] rfl (by decide) rfl dX11_isRow_67 ?_
        refine G_iload_n hC 2 2 rfl rfl dX11_isRow_68 ?_
        refine G_iload_n hC 3 0 rfl rfl dX11_isRow_69 ?_
        refine G_if_eq hC 80 dX11_isRow_70 (by decide) (fun c70 => ?_) (fun c70 => ?_)
        · have h := ifp c70 h
          refine G_iconst hC (v := 0) (by decide) dX11_isRow_80 ?_
          refine G_lv [1, 0, 3] rfl ?_
          exact hB81 _ _ _ _ h
        have h := ifn c70 h
        refine G_iconst hC (v := 1) (by decide) dX11_isRow_73 ?_
        refine G_iload hC 5 4 rfl dX11_isRow_74 ?_
        refine G_ishl hC dX11_isRow_76 ?_
        refine G_goto hC 81 dX11_isRow_77 (by decide) ?_
        refine G_lv [1, 0, 3] rfl ?_
        exact hB81 _ _ _ _ h
      have hB66 : ∀ (x2 : Int32) (x4 : Int32) (x5 : Int32), f_X11_isRow_B66 mw (f_X11_isRow_L15 mw fu15) x2 x4 x5 = some q → G p l e ({ frames := 1, cells := 0, slots := 0, locals := 25 } : Room) s m args below meth c D n ad A 6 0 0 Q en 66 [(0, .ref (ad 100)), (2, .int x2), (4, .int x4), (5, .int x5)] [] := by
        intro x2 x4 x5 h
        unfold f_X11_isRow_B66 at h
        refine G_iconst hC (v := 0) (by decide) dX11_isRow_66 ?_
        refine G_lv [0, 1, 2, 3] rfl ?_
        exact hB67 _ _ _ _ h
      intro x2 x3 x4 h
      rw [f_X11_isRow_L15] at h
      refine G_iload hC 4 3 rfl dX11_isRow_15 ?_
      refine G_if_le hC 93 dX11_isRow_17 (by decide) (fun c17 => ?_) (fun c17 => ?_)
      · have h := ifp c17 h
        refine G_iload_n hC 3 2 rfl rfl dX11_isRow_93 ?_
        obtain ⟨g94, h⟩ := asr h
        have h := Option.some.inj h
        subst h
        exact Kr _ _ _ _ (nar_b g94) ⟨rfl, rfl⟩ dX11_isRow_94
      have h := ifn c17 h
      refine G_iload_n hC 3 2 rfl rfl dX11_isRow_20 ?_
      refine G_if_eq hC 93 dX11_isRow_21 (by decide) (fun c21 => ?_) (fun c21 => ?_)
      · have h := ifp c21 h
        refine G_iload_n hC 3 2 rfl rfl dX11_isRow_93 ?_
        obtain ⟨g94, h⟩ := asr h
        have h := Option.some.inj h
        subst h
        exact Kr _ _ _ _ (nar_b g94) ⟨rfl, rfl⟩ dX11_isRow_94
      have h := ifn c21 h
      refine G_iload hC 4 3 rfl dX11_isRow_24 ?_
      refine G_bipush hC (v := 10) (by decide) dX11_isRow_26 ?_
      refine G_irem hC (by decide) dX11_isRow_28 ?_
      refine G_iconst hC (v := 1) (by decide) dX11_isRow_29 ?_
      refine G_isub hC dX11_isRow_30 ?_
      refine G_istore hC 5 [(5, .int ((irm x4 (10 : Int32)) - (1 : Int32))), (0, .ref (ad 100)), (2, .int x2), (3, .int x3), (4, .int x4)] (by decide) rfl dX11_isRow_31 ?_
      refine G_iload hC 5 0 rfl dX11_isRow_33 ?_
      refine G_i2l hC dX11_isRow_35 ?_
      refine G_lconst hC (v := 0) (by decide) dX11_isRow_36 ?_
      refine G_aload_n hC 0 1 rfl rfl dX11_isRow_37 ?_
      refine G_get hC inX11 100 (by omega) (v := .ref (ad 101)) e_model rfl 0 (by decide) m7 rfl rfl dX11_isRow_38 ?_
      refine G_bipush hC (v := 73) (by decide) dX11_isRow_41 ?_
      obtain ⟨g43, h⟩ := asn h
      refine G_iald hC 101 (by omega) e_mwarr g43 dX11_isRow_43 ?_
      refine G_iconst hC (v := 1) (by decide) dX11_isRow_44 ?_
      refine G_isub hC dX11_isRow_45 ?_
      refine G_i2l hC dX11_isRow_46 ?_
      obtain ⟨q47, h47, h⟩ := bnd h
      refine G_cSi (st := []) hC _ (c_X11_in  l  h47) (va_cwS 3 hC.hts gX11_isRow_X11_in rfl rfl rfl (by decide +kernel) ⟨Nat.le_of_ble_eq_true rfl, Nat.le_of_ble_eq_true rfl⟩) rfl (Nat.le_of_ble_eq_true rfl) (Nat.zero_le _) (Nat.zero_le _) rfl dX11_isRow_47 (fun r47 enx hw => ?_)
      obtain ⟨rfl, rfl⟩ := hw
      refine G_if_eq hC 66 dX11_isRow_50 (by decide) (fun c50 => ?_) (fun c50 => ?_)
      · have h := ifp c50 h
        refine G_lv [1, 2, 4, 0] rfl ?_
        exact hB66 _ _ _ h
      have h := ifn c50 h
      refine G_iload_n hC 2 2 rfl rfl dX11_isRow_53 ?_
      refine G_iload hC 5 0 rfl dX11_isRow_54 ?_
      obtain ⟨q56, h56, h⟩ := bnd h
      refine G_cSi (st := []) hC _ (c_X11_holds  l  h56) (va_cwS 2 hC.hts gX11_isRow_X11_holds rfl rfl rfl (by decide +kernel) ⟨Nat.le_of_ble_eq_true rfl, Nat.le_of_ble_eq_true rfl⟩) rfl (Nat.le_of_ble_eq_true rfl) (Nat.zero_le _) (Nat.zero_le _) rfl dX11_isRow_56 (fun r56 enx hw => ?_)
      obtain ⟨rfl, rfl⟩ := hw
      refine G_if_ne hC 66 dX11_isRow_59 (by decide) (fun c59 => ?_) (fun c59 => ?_)
      · have h := ifn c59 h
        refine G_lv [1, 2, 4, 0] rfl ?_
        exact hB66 _ _ _ h
      have h := ifp c59 h
      refine G_iconst hC (v := 1) (by decide) dX11_isRow_62 ?_
      refine G_goto hC 67 dX11_isRow_63 (by decide) ?_
      refine G_lv [1, 2, 4, 0] rfl ?_
      exact hB67 _ _ _ _ h
  unfold f_X11_isRow at h
  refine G_iconst hC (v := 0) (by decide) dX11_isRow_0 ?_
  refine G_istore_n hC 2 [(2, .int (0 : Int32)), (0, .ref (ad 100)), (1, .int x1)] rfl (by decide) rfl dX11_isRow_1 ?_
  refine G_iload_n hC 1 2 rfl rfl dX11_isRow_2 ?_
  refine G_i2l hC dX11_isRow_3 ?_
  refine G_lconst hC (v := 0) (by decide) dX11_isRow_4 ?_
  refine G_ldc2 hC (v := (55555)) k187 dX11_isRow_5 ?_
  obtain ⟨q8, h8, h⟩ := bnd h
  refine G_cSi (st := []) hC _ (c_X11_in  l  h8) (va_cwS 3 hC.hts gX11_isRow_X11_in rfl rfl rfl (by decide +kernel) ⟨Nat.le_of_ble_eq_true rfl, Nat.le_of_ble_eq_true rfl⟩) rfl (Nat.le_of_ble_eq_true rfl) (Nat.zero_le _) (Nat.zero_le _) rfl dX11_isRow_8 (fun r8 enx hw => ?_)
  obtain ⟨rfl, rfl⟩ := hw
  refine G_istore_n hC 3 [(3, .int q8), (2, .int (0 : Int32)), (0, .ref (ad 100)), (1, .int x1)] rfl (by decide) rfl dX11_isRow_11 ?_
  refine G_iload_n hC 1 3 rfl rfl dX11_isRow_12 ?_
  refine G_istore hC 4 [(4, .int x1), (3, .int q8), (2, .int (0 : Int32)), (0, .ref (ad 100)), (1, .int x1)] (by decide) rfl dX11_isRow_13 ?_
  refine G_lv [3, 2, 1, 0] rfl ?_
  exact hL15 FU _ _ _ h
def f_X11_go_B306 (mw : Nat → Int32) (rL23 : Int32 → Int64 → Int32 → Int32 → Int32 → Int32 → Int32 → Int32 → Option (Int32 × Int64)) (mtakes : Int32) (mmisses : Int64) (x1 : Int32) (x2 : Int32) (x3 : Int32) (x4 : Int32) (x5 : Int32) (x6 : Int32) : Option (Int32 × Int64) := rL23 mtakes mmisses x1 x2 x3 x4 x5 (x6 + (1 : Int32))
def f_X11_go_B285 (mw : Nat → Int32) (rL23 : Int32 → Int64 → Int32 → Int32 → Int32 → Int32 → Int32 → Int32 → Option (Int32 × Int64)) (mtakes : Int32) (mmisses : Int64) (x1 : Int32) (x2 : Int32) (x3 : Int32) (x4 : Int32) (x6 : Int32) (x7 : Int32) (s0 : Int32) : Option (Int32 × Int64) := if (79 : Int32) + x7 < 0 ∨ 960 ≤ ((79 : Int32) + x7).toNatClampNeg then none else (f_X11_go_B306 mw rL23 (mtakes + (mw ((79 : Int32) + x7).toNatClampNeg)) mmisses x1 x2 x3 x4 s0 x6)
def f_X11_go_B280 (mw : Nat → Int32) (rL23 : Int32 → Int64 → Int32 → Int32 → Int32 → Int32 → Int32 → Int32 → Option (Int32 × Int64)) (mtakes : Int32) (mmisses : Int64) (x1 : Int32) (x2 : Int32) (x3 : Int32) (x4 : Int32) (x6 : Int32) (x7 : Int32) : Option (Int32 × Int64) := f_X11_go_B285 mw rL23 mtakes mmisses x1 x2 x3 x4 x6 x7 (1 : Int32)
def f_X11_go_B266 (mw : Nat → Int32) (rL23 : Int32 → Int64 → Int32 → Int32 → Int32 → Int32 → Int32 → Int32 → Option (Int32 × Int64)) (mtakes : Int32) (mmisses : Int64) (x1 : Int32) (x2 : Int32) (x3 : Int32) (x5 : Int32) (x6 : Int32) (x7 : Int32) (x8 : Int32) (s0 : Int32) (s1 : Int32) : Option (Int32 × Int64) := if x5 = 0 then (if x8 = (3 : Int32) then (f_X11_go_B280 mw rL23 mtakes mmisses x1 x2 x3 (s0 + s1) x6 x7) else (f_X11_go_B285 mw rL23 mtakes mmisses x1 x2 x3 (s0 + s1) x6 x7 (0 : Int32))) else (f_X11_go_B280 mw rL23 mtakes mmisses x1 x2 x3 (s0 + s1) x6 x7)
def f_X11_go_B237 (mw : Nat → Int32) (rL23 : Int32 → Int64 → Int32 → Int32 → Int32 → Int32 → Int32 → Int32 → Option (Int32 × Int64)) (mtakes : Int32) (mmisses : Int64) (x1 : Int32) (x2 : Int32) (x3 : Int32) (x4 : Int32) (x5 : Int32) (x6 : Int32) (x7 : Int32) (x8 : Int32) (s1 : Int64) (s2 : Int64) (s3 : Int32) : Option (Int32 × Int64) := if x8 = (1 : Int32) then (f_X11_go_B266 mw rL23 mtakes (s1 * (s2 - s3.toInt64)) x1 x2 x3 x5 x6 x7 x8 x4 (2 : Int32)) else (if x8 = (2 : Int32) then (f_X11_go_B266 mw rL23 mtakes (s1 * (s2 - s3.toInt64)) x1 x2 x3 x5 x6 x7 x8 x4 (3 : Int32)) else (f_X11_go_B266 mw rL23 mtakes (s1 * (s2 - s3.toInt64)) x1 x2 x3 x5 x6 x7 x8 x4 (0 : Int32)))
def f_X11_go_B216 (mw : Nat → Int32) (rL23 : Int32 → Int64 → Int32 → Int32 → Int32 → Int32 → Int32 → Int32 → Option (Int32 × Int64)) (mtakes : Int32) (mmisses : Int64) (x1 : Int32) (x2 : Int32) (x3 : Int32) (x4 : Int32) (x5 : Int32) (x6 : Int32) (x7 : Int32) (x8 : Int32) (x10 : Int32) (s0 : Int32) : Option (Int32 × Int64) := if s0 = 0 then (f_X11_go_B237 mw rL23 mtakes mmisses x1 x2 x3 x4 x5 x6 x7 x8 mmisses (400 : Int64) x10) else (f_X11_go_B237 mw rL23 mtakes mmisses x1 x2 x3 x4 x5 x6 x7 x8 mmisses (400 : Int64) (0 : Int32))
def f_X11_go_B215 (mw : Nat → Int32) (rL23 : Int32 → Int64 → Int32 → Int32 → Int32 → Int32 → Int32 → Int32 → Option (Int32 × Int64)) (mtakes : Int32) (mmisses : Int64) (x1 : Int32) (x2 : Int32) (x3 : Int32) (x4 : Int32) (x5 : Int32) (x6 : Int32) (x7 : Int32) (x8 : Int32) (x10 : Int32) : Option (Int32 × Int64) := f_X11_go_B216 mw rL23 mtakes mmisses x1 x2 x3 x4 x5 x6 x7 x8 x10 (0 : Int32)
def f_X11_go_B184 (mw : Nat → Int32) (rL23 : Int32 → Int64 → Int32 → Int32 → Int32 → Int32 → Int32 → Int32 → Option (Int32 × Int64)) (mtakes : Int32) (mmisses : Int64) (x1 : Int32) (x2 : Int32) (x3 : Int32) (x4 : Int32) (x5 : Int32) (x6 : Int32) (x7 : Int32) (x8 : Int32) (s0 : Int32) : Option (Int32 × Int64) := if (3 : Int32) ≤ x8 then (f_X11_go_B215 mw rL23 mtakes mmisses x1 x2 x3 x4 x5 x6 x7 x8 s0) else (if x5 = 0 then (if (104 : Int32) < 0 ∨ 960 ≤ (104 : Int32).toNatClampNeg then none else (if mw (104 : Int32).toNatClampNeg ≤ mtakes then (f_X11_go_B215 mw rL23 mtakes mmisses x1 x2 x3 x4 x5 x6 x7 x8 s0) else (f_X11_go_B216 mw rL23 mtakes mmisses x1 x2 x3 x4 x5 x6 x7 x8 s0 (1 : Int32)))) else (f_X11_go_B215 mw rL23 mtakes mmisses x1 x2 x3 x4 x5 x6 x7 x8 s0))
def f_X11_go_B168 (mw : Nat → Int32) (rL23 : Int32 → Int64 → Int32 → Int32 → Int32 → Int32 → Int32 → Int32 → Option (Int32 × Int64)) (mtakes : Int32) (mmisses : Int64) (x1 : Int32) (x2 : Int32) (x3 : Int32) (x4 : Int32) (x5 : Int32) (x6 : Int32) (x7 : Int32) (x8 : Int32) (x10 : Int32) (s0 : Int32) : Option (Int32 × Int64) := if s0 = 0 then (f_X11_go_B184 mw rL23 mtakes mmisses x1 x2 x3 x4 x5 x6 x7 x8 x10) else (f_X11_go_B184 mw rL23 mtakes mmisses x1 x2 x3 x4 x5 x6 x7 x8 (x10 / (2 : Int32)))
def f_X11_go_B167 (mw : Nat → Int32) (rL23 : Int32 → Int64 → Int32 → Int32 → Int32 → Int32 → Int32 → Int32 → Option (Int32 × Int64)) (mtakes : Int32) (mmisses : Int64) (x1 : Int32) (x2 : Int32) (x3 : Int32) (x4 : Int32) (x5 : Int32) (x6 : Int32) (x7 : Int32) (x8 : Int32) (x10 : Int32) : Option (Int32 × Int64) := f_X11_go_B168 mw rL23 mtakes mmisses x1 x2 x3 x4 x5 x6 x7 x8 x10 (0 : Int32)
def f_X11_go_B163 (mw : Nat → Int32) (rL23 : Int32 → Int64 → Int32 → Int32 → Int32 → Int32 → Int32 → Int32 → Option (Int32 × Int64)) (mtakes : Int32) (mmisses : Int64) (x1 : Int32) (x2 : Int32) (x3 : Int32) (x4 : Int32) (x5 : Int32) (x6 : Int32) (x7 : Int32) (x8 : Int32) (x10 : Int32) : Option (Int32 × Int64) := f_X11_go_B168 mw rL23 mtakes mmisses x1 x2 x3 x4 x5 x6 x7 x8 x10 (1 : Int32)
def f_X11_go_B130 (mw : Nat → Int32) (rL23 : Int32 → Int64 → Int32 → Int32 → Int32 → Int32 → Int32 → Int32 → Option (Int32 × Int64)) (mtakes : Int32) (mmisses : Int64) (x1 : Int32) (x2 : Int32) (x3 : Int32) (x4 : Int32) (x5 : Int32) (x6 : Int32) (x7 : Int32) (x8 : Int32) (s0 : Int32) : Option (Int32 × Int64) := if x8 = (3 : Int32) then (f_X11_go_B163 mw rL23 mtakes mmisses x1 x2 x3 x4 x5 x6 x7 x8 s0) else (if x8 = (2 : Int32) then (if (13 : Int32) + x1 < 0 ∨ 960 ≤ ((13 : Int32) + x1).toNatClampNeg then none else (if (102 : Int32) < 0 ∨ 960 ≤ (102 : Int32).toNatClampNeg then none else (if mw ((13 : Int32) + x1).toNatClampNeg = mw (102 : Int32).toNatClampNeg then (f_X11_go_B167 mw rL23 mtakes mmisses x1 x2 x3 x4 x5 x6 x7 x8 s0) else (f_X11_go_B163 mw rL23 mtakes mmisses x1 x2 x3 x4 x5 x6 x7 x8 s0)))) else (f_X11_go_B167 mw rL23 mtakes mmisses x1 x2 x3 x4 x5 x6 x7 x8 s0))
def f_X11_go_L23 (mw : Nat → Int32)  : Nat → Int32 → Int64 → Int32 → Int32 → Int32 → Int32 → Int32 → Int32 → Option (Int32 × Int64)
  | 0, _, _, _, _, _, _, _, _ => none
  | fu + 1, mtakes, mmisses, x1, x2, x3, x4, x5, x6 => if (5 : Int32) ≤ x6 then (some (mtakes, mmisses)) else (if x3 = 0 then none else (if 0 ≤ (irm (x2 / x3) (10 : Int32)) - (1 : Int32) then (if (74 : Int32) + ((irm (x2 / x3) (10 : Int32)) - (1 : Int32)) < 0 ∨ 960 ≤ ((74 : Int32) + ((irm (x2 / x3) (10 : Int32)) - (1 : Int32))).toNatClampNeg then none else (if (84 : Int32) + ((irm (x2 / x3) (10 : Int32)) - (1 : Int32)) < 0 ∨ 960 ≤ ((84 : Int32) + ((irm (x2 / x3) (10 : Int32)) - (1 : Int32))).toNatClampNeg then none else (Option.bind (f_X11_lesser (20 : Int32) ((mw ((84 : Int32) + ((irm (x2 / x3) (10 : Int32)) - (1 : Int32))).toNatClampNeg) + x4)) (fun q91 => if mw ((74 : Int32) + ((irm (x2 / x3) (10 : Int32)) - (1 : Int32))).toNatClampNeg = (5 : Int32) then (f_X11_go_B130 mw (f_X11_go_L23 mw fu) mtakes mmisses x1 x2 (x3 / (10 : Int32)) x4 x5 x6 ((irm (x2 / x3) (10 : Int32)) - (1 : Int32)) (mw ((74 : Int32) + ((irm (x2 / x3) (10 : Int32)) - (1 : Int32))).toNatClampNeg) (400 : Int32)) else (if mw ((74 : Int32) + ((irm (x2 / x3) (10 : Int32)) - (1 : Int32))).toNatClampNeg = (4 : Int32) then (f_X11_go_B130 mw (f_X11_go_L23 mw fu) mtakes mmisses x1 x2 (x3 / (10 : Int32)) x4 x5 x6 ((irm (x2 / x3) (10 : Int32)) - (1 : Int32)) (mw ((74 : Int32) + ((irm (x2 / x3) (10 : Int32)) - (1 : Int32))).toNatClampNeg) ((10 : Int32) * q91)) else (Option.bind (f_X11_heldNow mw x1) (fun q124 => f_X11_go_B130 mw (f_X11_go_L23 mw fu) mtakes mmisses x1 x2 (x3 / (10 : Int32)) x4 x5 x6 ((irm (x2 / x3) (10 : Int32)) - (1 : Int32)) (mw ((74 : Int32) + ((irm (x2 / x3) (10 : Int32)) - (1 : Int32))).toNatClampNeg) (q124 * q91)))))))) else (f_X11_go_B306 mw (f_X11_go_L23 mw fu) mtakes (mmisses * (400 : Int64)) x1 x2 (x3 / (10 : Int32)) x4 x5 x6)))
def f_X11_go (mw : Nat → Int32) (mtakes : Int32) (mmisses : Int64) (x1 : Int32) (x2 : Int32) : Option (Int32 × Int64) := f_X11_go_L23 mw FU (0 : Int32) (1 : Int64) x1 x2 (10000 : Int32) (0 : Int32) (0 : Int32) (0 : Int32)
set_option maxHeartbeats 4000000 in
set_option maxRecDepth 100000 in
theorem c_X11_go {D : va_G} {cs : Nat → ClassId} {sa : Nat → Nat} {n : Nat} {ad : Nat → Nat} {A : Nat → Prop} (l : Launch) {en : Nat → va_E}  {mw : Nat → Int32} {mtexted : Int32} {mundo : Int32} {mabove : Int64} {mbelow : Int64} {mitems : Int32} {mat : Int32} {mfault : Int32} {mtakes : Int32} {mmisses : Int64} {mbest : Int64} {mh : Int64} {x1 : Int32} {x2 : Int32}  {q : Int32 × Int64} (hn : 110 ≤ n) (e_model : en 100 = .inr (8, [.ref (ad 101), .ref (ad 102), .ref (ad 103), .ref (ad 104), .int mtexted, .int mundo, .long mabove, .long mbelow, .ref (ad 105), .ref (ad 106), .ref (ad 107), .ref (ad 108), .int mitems, .int mat, .int mfault, .int mtakes, .long mmisses, .long mbest, .ref (ad 109), .long mh])) (e_mwarr : en 101 = .inl (cs 1, 960, .inl (mw))) (h : f_X11_go mw mtakes mmisses x1 x2 = some q) : Met l yX11_go wsX11_go { frames := 2, cells := 0, slots := 0, locals := 45 } (va_Pc [.ref (ad 100), .int x1, .int x2] (Wd D cs sa n ad A en)) (va_Qv (fun u => u 100 = .inr (8, [.ref (ad 101), .ref (ad 102), .ref (ad 103), .ref (ad 104), .int mtexted, .int mundo, .long mabove, .long mbelow, .ref (ad 105), .ref (ad 106), .ref (ad 107), .ref (ad 108), .int mitems, .int mat, .int mfault, .int q.1, .long q.2, .long mbest, .ref (ad 109), .long mh]) ∧ (∀ j, (j < 100 ∨ 101 ≤ j) → u j = en j)) (Wd D cs sa n ad A) A) 0 0 A := by
  refine G_startV cX11_go 13 [(0, .ref (ad 100)), (1, .int x1), (2, .int x2)] (by decide) rfl (Nat.le_of_ble_eq_true rfl) rfl ?_
  intro p e s m args below meth c Q hC hnm Kr
  have inX11 : ∀ w ∈ u_ws RX11 TX11 20, w ∈ wsX11_go := by decide +kernel
  have k199 : Cond.constantLong RX11 199 (400) ∈ wsX11_go := by decide +kernel
  have m193 : Cond.fieldLink RX11 193 "TongueTipModel" "takes" "I" ∈ wsX11_go := by decide +kernel
  have m196 : Cond.fieldLink RX11 196 "TongueTipModel" "misses" "J" ∈ wsX11_go := by decide +kernel
  have m7 : Cond.fieldLink RX11 7 "TongueTipModel" "w" "[I" ∈ wsX11_go := by decide +kernel
  have hL23 : ∀ (fu23 : Nat), ∀ (en1 : Nat → va_E) (mtakes : Int32) (mmisses : Int64) (x1 : Int32) (x2 : Int32) (x3 : Int32) (x4 : Int32) (x5 : Int32) (x6 : Int32), en1 100 = .inr (8, [.ref (ad 101), .ref (ad 102), .ref (ad 103), .ref (ad 104), .int mtexted, .int mundo, .long mabove, .long mbelow, .ref (ad 105), .ref (ad 106), .ref (ad 107), .ref (ad 108), .int mitems, .int mat, .int mfault, .int mtakes, .long mmisses, .long mbest, .ref (ad 109), .long mh]) → en1 101 = .inl (cs 1, 960, .inl (mw)) → (∀ j, (j < 100 ∨ 101 ≤ j) → en1 j = en j) → f_X11_go_L23 mw fu23 mtakes mmisses x1 x2 x3 x4 x5 x6 = some q → G p l e ({ frames := 2, cells := 0, slots := 0, locals := 45 } : Room) s m args below meth c D n ad A 13 0 0 Q en1 23 [(0, .ref (ad 100)), (1, .int x1), (2, .int x2), (3, .int x3), (4, .int x4), (5, .int x5), (6, .int x6)] [] := by
    intro fu23
    induction fu23 with
    | zero =>
      intro en1 mtakes mmisses x1 x2 x3 x4 x5 x6 e_model e_mwarr hfr h
      rw [f_X11_go_L23] at h
      cases h
    | succ fu23 ih23 =>
      have hB306 : ∀ (en1 : Nat → va_E) (mtakes : Int32) (mmisses : Int64) (x1 : Int32) (x2 : Int32) (x3 : Int32) (x4 : Int32) (x5 : Int32) (x6 : Int32), en1 100 = .inr (8, [.ref (ad 101), .ref (ad 102), .ref (ad 103), .ref (ad 104), .int mtexted, .int mundo, .long mabove, .long mbelow, .ref (ad 105), .ref (ad 106), .ref (ad 107), .ref (ad 108), .int mitems, .int mat, .int mfault, .int mtakes, .long mmisses, .long mbest, .ref (ad 109), .long mh]) → en1 101 = .inl (cs 1, 960, .inl (mw)) → (∀ j, (j < 100 ∨ 101 ≤ j) → en1 j = en j) → f_X11_go_B306 mw (f_X11_go_L23 mw fu23) mtakes mmisses x1 x2 x3 x4 x5 x6 = some q → G p l e ({ frames := 2, cells := 0, slots := 0, locals := 45 } : Room) s m args below meth c D n ad A 13 0 0 Q en1 306 [(0, .ref (ad 100)), (1, .int x1), (2, .int x2), (3, .int x3), (4, .int x4), (5, .int x5), (6, .int x6)] [] := by
        intro en1 mtakes mmisses x1 x2 x3 x4 x5 x6 e_model e_mwarr hfr h
        unfold f_X11_go_B306 at h
        refine G_iinc hC 6 6 [(6, .int (x6 + (1 : Int32))), (0, .ref (ad 100)), (1, .int x1), (2, .int x2), (3, .int x3), (4, .int x4), (5, .int x5)] rfl rfl (by decide) rfl dX11_go_306 ?_
        refine G_goto hC 23 dX11_go_309 (by decide) ?_
        refine G_lv [1, 2, 3, 4, 5, 6, 0] rfl ?_
        exact ih23 _ _ _ _ _ _ _ _ _ e_model e_mwarr hfr h
      have hB285 : ∀ (en1 : Nat → va_E) (mtakes : Int32) (mmisses : Int64) (x1 : Int32) (x2 : Int32) (x3 : Int32) (x4 : Int32) (x6 : Int32) (x7 : Int32) (s0 : Int32), en1 100 = .inr (8, [.ref (ad 101), .ref (ad 102), .ref (ad 103), .ref (ad 104), .int mtexted, .int mundo, .long mabove, .long mbelow, .ref (ad 105), .ref (ad 106), .ref (ad 107), .ref (ad 108), .int mitems, .int mat, .int mfault, .int mtakes, .long mmisses, .long mbest, .ref (ad 109), .long mh]) → en1 101 = .inl (cs 1, 960, .inl (mw)) → (∀ j, (j < 100 ∨ 101 ≤ j) → en1 j = en j) → f_X11_go_B285 mw (f_X11_go_L23 mw fu23) mtakes mmisses x1 x2 x3 x4 x6 x7 s0 = some q → G p l e ({ frames := 2, cells := 0, slots := 0, locals := 45 } : Room) s m args below meth c D n ad A 13 0 0 Q en1 285 [(0, .ref (ad 100)), (1, .int x1), (2, .int x2), (3, .int x3), (4, .int x4), (6, .int x6), (7, .int x7)] [.int s0] := by
        intro en1 mtakes mmisses x1 x2 x3 x4 x6 x7 s0 e_model e_mwarr hfr h
        unfold f_X11_go_B285 at h
        refine G_istore hC 5 [(5, .int s0), (0, .ref (ad 100)), (1, .int x1), (2, .int x2), (3, .int x3), (4, .int x4), (6, .int x6), (7, .int x7)] (by decide) rfl dX11_go_285 ?_
        refine G_aload_n hC 0 1 rfl rfl dX11_go_287 ?_
        refine G_dup hC rfl dX11_go_288 ?_
        refine G_get hC inX11 100 (by omega) (v := .int mtakes) e_model rfl 15 (by decide) m193 rfl rfl dX11_go_289 ?_
        refine G_aload_n hC 0 1 rfl rfl dX11_go_292 ?_
        refine G_get hC inX11 100 (by omega) (v := .ref (ad 101)) e_model rfl 0 (by decide) m7 rfl rfl dX11_go_293 ?_
        refine G_bipush hC (v := 79) (by decide) dX11_go_296 ?_
        refine G_iload hC 7 7 rfl dX11_go_298 ?_
        refine G_iadd hC dX11_go_300 ?_
        obtain ⟨g301, h⟩ := asn h
        refine G_iald hC 101 (by omega) e_mwarr g301 dX11_go_301 ?_
        refine G_iadd hC dX11_go_302 ?_
        refine G_put hC inX11 tyX11 tyX11_ok nmX11 100 (by omega) e_model rfl 15 (by decide) m193 rfl rfl (ty := .int) rfl rfl rfl (Nat.le_of_ble_eq_true rfl) dX11_go_303 (fun en2 e_model fr => ?_)
        have e_model : en2 100 = .inr (8, [.ref (ad 101), .ref (ad 102), .ref (ad 103), .ref (ad 104), .int mtexted, .int mundo, .long mabove, .long mbelow, .ref (ad 105), .ref (ad 106), .ref (ad 107), .ref (ad 108), .int mitems, .int mat, .int mfault, .int (mtakes + (mw ((79 : Int32) + x7).toNatClampNeg)), .long mmisses, .long mbest, .ref (ad 109), .long mh]) := e_model
        have e_mwarr := (fr 101 (by omega)).trans e_mwarr
        have hfr : ∀ j, (j < 100 ∨ 101 ≤ j) → en2 j = en j := fun j o0 => (fr j (by omega)).trans (hfr j o0)
        refine G_lv [1, 2, 3, 4, 5, 0, 6] rfl ?_
        exact hB306 _ _ _ _ _ _ _ _ _ e_model e_mwarr hfr h
      have hB280 : ∀ (en1 : Nat → va_E) (mtakes : Int32) (mmisses : Int64) (x1 : Int32) (x2 : Int32) (x3 : Int32) (x4 : Int32) (x6 : Int32) (x7 : Int32), en1 100 = .inr (8, [.ref (ad 101), .ref (ad 102), .ref (ad 103), .ref (ad 104), .int mtexted, .int mundo, .long mabove, .long mbelow, .ref (ad 105), .ref (ad 106), .ref (ad 107), .ref (ad 108), .int mitems, .int mat, .int mfault, .int mtakes, .long mmisses, .long mbest, .ref (ad 109), .long mh]) → en1 101 = .inl (cs 1, 960, .inl (mw)) → (∀ j, (j < 100 ∨ 101 ≤ j) → en1 j = en j) → f_X11_go_B280 mw (f_X11_go_L23 mw fu23) mtakes mmisses x1 x2 x3 x4 x6 x7 = some q → G p l e ({ frames := 2, cells := 0, slots := 0, locals := 45 } : Room) s m args below meth c D n ad A 13 0 0 Q en1 280 [(0, .ref (ad 100)), (1, .int x1), (2, .int x2), (3, .int x3), (4, .int x4), (6, .int x6), (7, .int x7)] [] := by
        intro en1 mtakes mmisses x1 x2 x3 x4 x6 x7 e_model e_mwarr hfr h
        unfold f_X11_go_B280 at h
        refine G_iconst hC (v := 1) (by decide) dX11_go_280 ?_
        refine G_goto hC 285 dX11_go_281 (by decide) ?_
        refine G_lv [0, 1, 2, 3, 4, 5, 6] rfl ?_
        exact hB285 _ _ _ _ _ _ _ _ _ _ e_model e_mwarr hfr h
      have hB266 : ∀ (en1 : Nat → va_E) (mtakes : Int32) (mmisses : Int64) (x1 : Int32) (x2 : Int32) (x3 : Int32) (x5 : Int32) (x6 : Int32) (x7 : Int32) (x8 : Int32) (s0 : Int32) (s1 : Int32), en1 100 = .inr (8, [.ref (ad 101), .ref (ad 102), .ref (ad 103), .ref (ad 104), .int mtexted, .int mundo, .long mabove, .long mbelow, .ref (ad 105), .ref (ad 106), .ref (ad 107), .ref (ad 108), .int mitems, .int mat, .int mfault, .int mtakes, .long mmisses, .long mbest, .ref (ad 109), .long mh]) → en1 101 = .inl (cs 1, 960, .inl (mw)) → (∀ j, (j < 100 ∨ 101 ≤ j) → en1 j = en j) → f_X11_go_B266 mw (f_X11_go_L23 mw fu23) mtakes mmisses x1 x2 x3 x5 x6 x7 x8 s0 s1 = some q → G p l e ({ frames := 2, cells := 0, slots := 0, locals := 45 } : Room) s m args below meth c D n ad A 13 0 0 Q en1 266 [(0, .ref (ad 100)), (1, .int x1), (2, .int x2), (3, .int x3), (5, .int x5), (6, .int x6), (7, .int x7), (8, .int x8)] [.int s1, .int s0] := by
        intro en1 mtakes mmisses x1 x2 x3 x5 x6 x7 x8 s0 s1 e_model e_mwarr hfr h
        unfold f_X11_go_B266 at h
        refine G_iadd hC dX11_go_266 ?_
        refine G_istore hC 4 [(4, .int (s0 + s1)), (0, .ref (ad 100)), (1, .int x1), (2, .int x2), (3, .int x3), (5, .int x5), (6, .int x6), (7, .int x7), (8, .int x8)] (by decide) rfl dX11_go_267 ?_
        refine G_iload hC 5 5 rfl dX11_go_269 ?_
        refine G_if_ne hC 280 dX11_go_271 (by decide) (fun c271 => ?_) (fun c271 => ?_)
        · have h := ifn c271 h
          refine G_lv [1, 2, 3, 4, 0, 6, 7] rfl ?_
          exact hB280 _ _ _ _ _ _ _ _ _ e_model e_mwarr hfr h
        have h := ifp c271 h
        refine G_iload hC 8 8 rfl dX11_go_274 ?_
        refine G_iconst hC (v := 3) (by decide) dX11_go_276 ?_
        refine G_icmp_ne hC 284 dX11_go_277 (by decide) (fun c277 => ?_) (fun c277 => ?_)
        · have h := ifn c277 h
          refine G_iconst hC (v := 0) (by decide) dX11_go_284 ?_
          refine G_lv [1, 2, 3, 4, 0, 6, 7] rfl ?_
          exact hB285 _ _ _ _ _ _ _ _ _ _ e_model e_mwarr hfr h
        have h := ifp c277 h
        refine G_lv [1, 2, 3, 4, 0, 6, 7] rfl ?_
        exact hB280 _ _ _ _ _ _ _ _ _ e_model e_mwarr hfr h
      have hB237 : ∀ (en1 : Nat → va_E) (mtakes : Int32) (mmisses : Int64) (x1 : Int32) (x2 : Int32) (x3 : Int32) (x4 : Int32) (x5 : Int32) (x6 : Int32) (x7 : Int32) (x8 : Int32) (s1 : Int64) (s2 : Int64) (s3 : Int32), en1 100 = .inr (8, [.ref (ad 101), .ref (ad 102), .ref (ad 103), .ref (ad 104), .int mtexted, .int mundo, .long mabove, .long mbelow, .ref (ad 105), .ref (ad 106), .ref (ad 107), .ref (ad 108), .int mitems, .int mat, .int mfault, .int mtakes, .long mmisses, .long mbest, .ref (ad 109), .long mh]) → en1 101 = .inl (cs 1, 960, .inl (mw)) → (∀ j, (j < 100 ∨ 101 ≤ j) → en1 j = en j) → f_X11_go_B237 mw (f_X11_go_L23 mw fu23) mtakes mmisses x1 x2 x3 x4 x5 x6 x7 x8 s1 s2 s3 = some q → G p l e ({ frames := 2, cells := 0, slots := 0, locals := 45 } : Room) s m args below meth c D n ad A 13 0 0 Q en1 237 [(0, .ref (ad 100)), (1, .int x1), (2, .int x2), (3, .int x3), (4, .int x4), (5, .int x5), (6, .int x6), (7, .int x7), (8, .int x8)] [.int s3, .long s2, .long s1, .ref (ad 100)] := by
        intro en1 mtakes mmisses x1 x2 x3 x4 x5 x6 x7 x8 s1 s2 s3 e_model e_mwarr hfr h
        unfold f_X11_go_B237 at h
        refine G_i2l hC dX11_go_237 ?_
        refine G_lsub hC dX11_go_238 ?_
        refine G_lmul hC dX11_go_239 ?_
        refine G_put hC inX11 tyX11 tyX11_ok nmX11 100 (by omega) e_model rfl 16 (by decide) m196 rfl rfl (ty := .long) rfl rfl rfl (Nat.le_of_ble_eq_true rfl) dX11_go_240 (fun en2 e_model fr => ?_)
        have e_model : en2 100 = .inr (8, [.ref (ad 101), .ref (ad 102), .ref (ad 103), .ref (ad 104), .int mtexted, .int mundo, .long mabove, .long mbelow, .ref (ad 105), .ref (ad 106), .ref (ad 107), .ref (ad 108), .int mitems, .int mat, .int mfault, .int mtakes, .long (s1 * (s2 - s3.toInt64)), .long mbest, .ref (ad 109), .long mh]) := e_model
        have e_mwarr := (fr 101 (by omega)).trans e_mwarr
        have hfr : ∀ j, (j < 100 ∨ 101 ≤ j) → en2 j = en j := fun j o0 => (fr j (by omega)).trans (hfr j o0)
        refine G_iload hC 4 4 rfl dX11_go_243 ?_
        refine G_iload hC 8 8 rfl dX11_go_245 ?_
        refine G_iconst hC (v := 1) (by decide) dX11_go_247 ?_
        refine G_icmp_ne hC 255 dX11_go_248 (by decide) (fun c248 => ?_) (fun c248 => ?_)
        · have h := ifn c248 h
          refine G_iload hC 8 8 rfl dX11_go_255 ?_
          refine G_iconst hC (v := 2) (by decide) dX11_go_257 ?_
          refine G_icmp_ne hC 265 dX11_go_258 (by decide) (fun c258 => ?_) (fun c258 => ?_)
          · have h := ifn c258 h
            refine G_iconst hC (v := 0) (by decide) dX11_go_265 ?_
            refine G_lv [0, 1, 2, 3, 5, 6, 7, 8] rfl ?_
            exact hB266 _ _ _ _ _ _ _ _ _ _ _ _ e_model e_mwarr hfr h
          have h := ifp c258 h
          refine G_iconst hC (v := 3) (by decide) dX11_go_261 ?_
          refine G_goto hC 266 dX11_go_262 (by decide) ?_
          refine G_lv [0, 1, 2, 3, 5, 6, 7, 8] rfl ?_
          exact hB266 _ _ _ _ _ _ _ _ _ _ _ _ e_model e_mwarr hfr h
        have h := ifp c248 h
        refine G_iconst hC (v := 2) (by decide) dX11_go_251 ?_
        refine G_goto hC 266 dX11_go_252 (by decide) ?_
        refine G_lv [0, 1, 2, 3, 5, 6, 7, 8] rfl ?_
        exact hB266 _ _ _ _ _ _ _ _ _ _ _ _ e_model e_mwarr hfr h
      have hB216 : ∀ (en1 : Nat → va_E) (mtakes : Int32) (mmisses : Int64) (x1 : Int32) (x2 : Int32) (x3 : Int32) (x4 : Int32) (x5 : Int32) (x6 : Int32) (x7 : Int32) (x8 : Int32) (x10 : Int32) (s0 : Int32), en1 100 = .inr (8, [.ref (ad 101), .ref (ad 102), .ref (ad 103), .ref (ad 104), .int mtexted, .int mundo, .long mabove, .long mbelow, .ref (ad 105), .ref (ad 106), .ref (ad 107), .ref (ad 108), .int mitems, .int mat, .int mfault, .int mtakes, .long mmisses, .long mbest, .ref (ad 109), .long mh]) → en1 101 = .inl (cs 1, 960, .inl (mw)) → (∀ j, (j < 100 ∨ 101 ≤ j) → en1 j = en j) → f_X11_go_B216 mw (f_X11_go_L23 mw fu23) mtakes mmisses x1 x2 x3 x4 x5 x6 x7 x8 x10 s0 = some q → G p l e ({ frames := 2, cells := 0, slots := 0, locals := 45 } : Room) s m args below meth c D n ad A 13 0 0 Q en1 216 [(0, .ref (ad 100)), (1, .int x1), (2, .int x2), (3, .int x3), (4, .int x4), (5, .int x5), (6, .int x6), (7, .int x7), (8, .int x8), (10, .int x10)] [.int s0] := by
        intro en1 mtakes mmisses x1 x2 x3 x4 x5 x6 x7 x8 x10 s0 e_model e_mwarr hfr h
        unfold f_X11_go_B216 at h
        refine G_istore hC 12 [(12, .int s0), (0, .ref (ad 100)), (1, .int x1), (2, .int x2), (3, .int x3), (4, .int x4), (5, .int x5), (6, .int x6), (7, .int x7), (8, .int x8), (10, .int x10)] (by decide) rfl dX11_go_216 ?_
        refine G_aload_n hC 0 1 rfl rfl dX11_go_218 ?_
        refine G_dup hC rfl dX11_go_219 ?_
        refine G_get hC inX11 100 (by omega) (v := .long mmisses) e_model rfl 16 (by decide) m196 rfl rfl dX11_go_220 ?_
        refine G_ldc2 hC (v := (400)) k199 dX11_go_223 ?_
        refine G_iload hC 12 0 rfl dX11_go_226 ?_
        refine G_if_eq hC 235 dX11_go_228 (by decide) (fun c228 => ?_) (fun c228 => ?_)
        · have h := ifp c228 h
          refine G_iload hC 10 10 rfl dX11_go_235 ?_
          refine G_lv [1, 2, 3, 4, 5, 6, 7, 8, 9] rfl ?_
          exact hB237 _ _ _ _ _ _ _ _ _ _ _ _ _ _ e_model e_mwarr hfr h
        have h := ifn c228 h
        refine G_iconst hC (v := 0) (by decide) dX11_go_231 ?_
        refine G_goto hC 237 dX11_go_232 (by decide) ?_
        refine G_lv [1, 2, 3, 4, 5, 6, 7, 8, 9] rfl ?_
        exact hB237 _ _ _ _ _ _ _ _ _ _ _ _ _ _ e_model e_mwarr hfr h
      have hB215 : ∀ (en1 : Nat → va_E) (mtakes : Int32) (mmisses : Int64) (x1 : Int32) (x2 : Int32) (x3 : Int32) (x4 : Int32) (x5 : Int32) (x6 : Int32) (x7 : Int32) (x8 : Int32) (x10 : Int32), en1 100 = .inr (8, [.ref (ad 101), .ref (ad 102), .ref (ad 103), .ref (ad 104), .int mtexted, .int mundo, .long mabove, .long mbelow, .ref (ad 105), .ref (ad 106), .ref (ad 107), .ref (ad 108), .int mitems, .int mat, .int mfault, .int mtakes, .long mmisses, .long mbest, .ref (ad 109), .long mh]) → en1 101 = .inl (cs 1, 960, .inl (mw)) → (∀ j, (j < 100 ∨ 101 ≤ j) → en1 j = en j) → f_X11_go_B215 mw (f_X11_go_L23 mw fu23) mtakes mmisses x1 x2 x3 x4 x5 x6 x7 x8 x10 = some q → G p l e ({ frames := 2, cells := 0, slots := 0, locals := 45 } : Room) s m args below meth c D n ad A 13 0 0 Q en1 215 [(0, .ref (ad 100)), (1, .int x1), (2, .int x2), (3, .int x3), (4, .int x4), (5, .int x5), (6, .int x6), (7, .int x7), (8, .int x8), (10, .int x10)] [] := by
        intro en1 mtakes mmisses x1 x2 x3 x4 x5 x6 x7 x8 x10 e_model e_mwarr hfr h
        unfold f_X11_go_B215 at h
        refine G_iconst hC (v := 0) (by decide) dX11_go_215 ?_
        refine G_lv [0, 1, 2, 3, 4, 5, 6, 7, 8, 9] rfl ?_
        exact hB216 _ _ _ _ _ _ _ _ _ _ _ _ _ e_model e_mwarr hfr h
      have hB184 : ∀ (en1 : Nat → va_E) (mtakes : Int32) (mmisses : Int64) (x1 : Int32) (x2 : Int32) (x3 : Int32) (x4 : Int32) (x5 : Int32) (x6 : Int32) (x7 : Int32) (x8 : Int32) (s0 : Int32), en1 100 = .inr (8, [.ref (ad 101), .ref (ad 102), .ref (ad 103), .ref (ad 104), .int mtexted, .int mundo, .long mabove, .long mbelow, .ref (ad 105), .ref (ad 106), .ref (ad 107), .ref (ad 108), .int mitems, .int mat, .int mfault, .int mtakes, .long mmisses, .long mbest, .ref (ad 109), .long mh]) → en1 101 = .inl (cs 1, 960, .inl (mw)) → (∀ j, (j < 100 ∨ 101 ≤ j) → en1 j = en j) → f_X11_go_B184 mw (f_X11_go_L23 mw fu23) mtakes mmisses x1 x2 x3 x4 x5 x6 x7 x8 s0 = some q → G p l e ({ frames := 2, cells := 0, slots := 0, locals := 45 } : Room) s m args below meth c D n ad A 13 0 0 Q en1 184 [(0, .ref (ad 100)), (1, .int x1), (2, .int x2), (3, .int x3), (4, .int x4), (5, .int x5), (6, .int x6), (7, .int x7), (8, .int x8)] [.int s0] := by
        intro en1 mtakes mmisses x1 x2 x3 x4 x5 x6 x7 x8 s0 e_model e_mwarr hfr h
        unfold f_X11_go_B184 at h
        refine G_istore hC 10 [(10, .int s0), (0, .ref (ad 100)), (1, .int x1), (2, .int x2), (3, .int x3), (4, .int x4), (5, .int x5), (6, .int x6), (7, .int x7), (8, .int x8)] (by decide) rfl dX11_go_184 ?_
        refine G_iload hC 8 9 rfl dX11_go_186 ?_
        refine G_iconst hC (v := 3) (by decide) dX11_go_188 ?_
        refine G_icmp_ge hC 215 dX11_go_189 (by decide) (fun c189 => ?_) (fun c189 => ?_)
        · have h := ifp c189 h
          refine G_lv [1, 2, 3, 4, 5, 6, 7, 8, 9, 0] rfl ?_
          exact hB215 _ _ _ _ _ _ _ _ _ _ _ _ e_model e_mwarr hfr h
        have h := ifn c189 h
        refine G_iload hC 5 6 rfl dX11_go_192 ?_
        refine G_if_ne hC 215 dX11_go_194 (by decide) (fun c194 => ?_) (fun c194 => ?_)
        · have h := ifn c194 h
          refine G_lv [1, 2, 3, 4, 5, 6, 7, 8, 9, 0] rfl ?_
          exact hB215 _ _ _ _ _ _ _ _ _ _ _ _ e_model e_mwarr hfr h
        have h := ifp c194 h
        refine G_aload_n hC 0 1 rfl rfl dX11_go_197 ?_
        refine G_get hC inX11 100 (by omega) (v := .int mtakes) e_model rfl 15 (by decide) m193 rfl rfl dX11_go_198 ?_
        refine G_aload_n hC 0 1 rfl rfl dX11_go_201 ?_
        refine G_get hC inX11 100 (by omega) (v := .ref (ad 101)) e_model rfl 0 (by decide) m7 rfl rfl dX11_go_202 ?_
        refine G_bipush hC (v := 104) (by decide) dX11_go_205 ?_
        obtain ⟨g207, h⟩ := asn h
        refine G_iald hC 101 (by omega) e_mwarr g207 dX11_go_207 ?_
        refine G_icmp_ge hC 215 dX11_go_208 (by decide) (fun c208 => ?_) (fun c208 => ?_)
        · have h := ifp c208 h
          refine G_lv [1, 2, 3, 4, 5, 6, 7, 8, 9, 0] rfl ?_
          exact hB215 _ _ _ _ _ _ _ _ _ _ _ _ e_model e_mwarr hfr h
        have h := ifn c208 h
        refine G_iconst hC (v := 1) (by decide) dX11_go_211 ?_
        refine G_goto hC 216 dX11_go_212 (by decide) ?_
        refine G_lv [1, 2, 3, 4, 5, 6, 7, 8, 9, 0] rfl ?_
        exact hB216 _ _ _ _ _ _ _ _ _ _ _ _ _ e_model e_mwarr hfr h
      have hB168 : ∀ (en1 : Nat → va_E) (mtakes : Int32) (mmisses : Int64) (x1 : Int32) (x2 : Int32) (x3 : Int32) (x4 : Int32) (x5 : Int32) (x6 : Int32) (x7 : Int32) (x8 : Int32) (x10 : Int32) (s0 : Int32), en1 100 = .inr (8, [.ref (ad 101), .ref (ad 102), .ref (ad 103), .ref (ad 104), .int mtexted, .int mundo, .long mabove, .long mbelow, .ref (ad 105), .ref (ad 106), .ref (ad 107), .ref (ad 108), .int mitems, .int mat, .int mfault, .int mtakes, .long mmisses, .long mbest, .ref (ad 109), .long mh]) → en1 101 = .inl (cs 1, 960, .inl (mw)) → (∀ j, (j < 100 ∨ 101 ≤ j) → en1 j = en j) → f_X11_go_B168 mw (f_X11_go_L23 mw fu23) mtakes mmisses x1 x2 x3 x4 x5 x6 x7 x8 x10 s0 = some q → G p l e ({ frames := 2, cells := 0, slots := 0, locals := 45 } : Room) s m args below meth c D n ad A 13 0 0 Q en1 168 [(0, .ref (ad 100)), (1, .int x1), (2, .int x2), (3, .int x3), (4, .int x4), (5, .int x5), (6, .int x6), (7, .int x7), (8, .int x8), (10, .int x10)] [.int s0] := by
        intro en1 mtakes mmisses x1 x2 x3 x4 x5 x6 x7 x8 x10 s0 e_model e_mwarr hfr h
        unfold f_X11_go_B168 at h
        refine G_istore hC 11 [(11, .int s0), (0, .ref (ad 100)), (1, .int x1), (2, .int x2), (3, .int x3), (4, .int x4), (5, .int x5), (6, .int x6), (7, .int x7), (8, .int x8), (10, .int x10)] (by decide) rfl dX11_go_168 ?_
        refine G_iload hC 11 0 rfl dX11_go_170 ?_
        refine G_if_eq hC 182 dX11_go_172 (by decide) (fun c172 => ?_) (fun c172 => ?_)
        · have h := ifp c172 h
          refine G_iload hC 10 10 rfl dX11_go_182 ?_
          refine G_lv [1, 2, 3, 4, 5, 6, 7, 8, 9] rfl ?_
          exact hB184 _ _ _ _ _ _ _ _ _ _ _ _ e_model e_mwarr hfr h
        have h := ifn c172 h
        refine G_iload hC 10 10 rfl dX11_go_175 ?_
        refine G_iconst hC (v := 2) (by decide) dX11_go_177 ?_
        refine G_idiv hC (by decide) dX11_go_178 ?_
        refine G_goto hC 184 dX11_go_179 (by decide) ?_
        refine G_lv [1, 2, 3, 4, 5, 6, 7, 8, 9] rfl ?_
        exact hB184 _ _ _ _ _ _ _ _ _ _ _ _ e_model e_mwarr hfr h
      have hB167 : ∀ (en1 : Nat → va_E) (mtakes : Int32) (mmisses : Int64) (x1 : Int32) (x2 : Int32) (x3 : Int32) (x4 : Int32) (x5 : Int32) (x6 : Int32) (x7 : Int32) (x8 : Int32) (x10 : Int32), en1 100 = .inr (8, [.ref (ad 101), .ref (ad 102), .ref (ad 103), .ref (ad 104), .int mtexted, .int mundo, .long mabove, .long mbelow, .ref (ad 105), .ref (ad 106), .ref (ad 107), .ref (ad 108), .int mitems, .int mat, .int mfault, .int mtakes, .long mmisses, .long mbest, .ref (ad 109), .long mh]) → en1 101 = .inl (cs 1, 960, .inl (mw)) → (∀ j, (j < 100 ∨ 101 ≤ j) → en1 j = en j) → f_X11_go_B167 mw (f_X11_go_L23 mw fu23) mtakes mmisses x1 x2 x3 x4 x5 x6 x7 x8 x10 = some q → G p l e ({ frames := 2, cells := 0, slots := 0, locals := 45 } : Room) s m args below meth c D n ad A 13 0 0 Q en1 167 [(0, .ref (ad 100)), (1, .int x1), (2, .int x2), (3, .int x3), (4, .int x4), (5, .int x5), (6, .int x6), (7, .int x7), (8, .int x8), (10, .int x10)] [] := by
        intro en1 mtakes mmisses x1 x2 x3 x4 x5 x6 x7 x8 x10 e_model e_mwarr hfr h
        unfold f_X11_go_B167 at h
        refine G_iconst hC (v := 0) (by decide) dX11_go_167 ?_
        refine G_lv [0, 1, 2, 3, 4, 5, 6, 7, 8, 9] rfl ?_
        exact hB168 _ _ _ _ _ _ _ _ _ _ _ _ _ e_model e_mwarr hfr h
      have hB163 : ∀ (en1 : Nat → va_E) (mtakes : Int32) (mmisses : Int64) (x1 : Int32) (x2 : Int32) (x3 : Int32) (x4 : Int32) (x5 : Int32) (x6 : Int32) (x7 : Int32) (x8 : Int32) (x10 : Int32), en1 100 = .inr (8, [.ref (ad 101), .ref (ad 102), .ref (ad 103), .ref (ad 104), .int mtexted, .int mundo, .long mabove, .long mbelow, .ref (ad 105), .ref (ad 106), .ref (ad 107), .ref (ad 108), .int mitems, .int mat, .int mfault, .int mtakes, .long mmisses, .long mbest, .ref (ad 109), .long mh]) → en1 101 = .inl (cs 1, 960, .inl (mw)) → (∀ j, (j < 100 ∨ 101 ≤ j) → en1 j = en j) → f_X11_go_B163 mw (f_X11_go_L23 mw fu23) mtakes mmisses x1 x2 x3 x4 x5 x6 x7 x8 x10 = some q → G p l e ({ frames := 2, cells := 0, slots := 0, locals := 45 } : Room) s m args below meth c D n ad A 13 0 0 Q en1 163 [(0, .ref (ad 100)), (1, .int x1), (2, .int x2), (3, .int x3), (4, .int x4), (5, .int x5), (6, .int x6), (7, .int x7), (8, .int x8), (10, .int x10)] [] := by
        intro en1 mtakes mmisses x1 x2 x3 x4 x5 x6 x7 x8 x10 e_model e_mwarr hfr h
        unfold f_X11_go_B163 at h
        refine G_iconst hC (v := 1) (by decide) dX11_go_163 ?_
        refine G_goto hC 168 dX11_go_164 (by decide) ?_
        refine G_lv [0, 1, 2, 3, 4, 5, 6, 7, 8, 9] rfl ?_
        exact hB168 _ _ _ _ _ _ _ _ _ _ _ _ _ e_model e_mwarr hfr h
      have hB130 : ∀ (en1 : Nat → va_E) (mtakes : Int32) (mmisses : Int64) (x1 : Int32) (x2 : Int32) (x3 : Int32) (x4 : Int32) (x5 : Int32) (x6 : Int32) (x7 : Int32) (x8 : Int32) (s0 : Int32), en1 100 = .inr (8, [.ref (ad 101), .ref (ad 102), .ref (ad 103), .ref (ad 104), .int mtexted, .int mundo, .long mabove, .long mbelow, .ref (ad 105), .ref (ad 106), .ref (ad 107), .ref (ad 108), .int mitems, .int mat, .int mfault, .int mtakes, .long mmisses, .long mbest, .ref (ad 109), .long mh]) → en1 101 = .inl (cs 1, 960, .inl (mw)) → (∀ j, (j < 100 ∨ 101 ≤ j) → en1 j = en j) → f_X11_go_B130 mw (f_X11_go_L23 mw fu23) mtakes mmisses x1 x2 x3 x4 x5 x6 x7 x8 s0 = some q → G p l e ({ frames := 2, cells := 0, slots := 0, locals := 45 } : Room) s m args below meth c D n ad A 13 0 0 Q en1 130 [(0, .ref (ad 100)), (1, .int x1), (2, .int x2), (3, .int x3), (4, .int x4), (5, .int x5), (6, .int x6), (7, .int x7), (8, .int x8)] [.int s0] := by
        intro en1 mtakes mmisses x1 x2 x3 x4 x5 x6 x7 x8 s0 e_model e_mwarr hfr h
        unfold f_X11_go_B130 at h
        refine G_istore hC 10 [(10, .int s0), (0, .ref (ad 100)), (1, .int x1), (2, .int x2), (3, .int x3), (4, .int x4), (5, .int x5), (6, .int x6), (7, .int x7), (8, .int x8)] (by decide) rfl dX11_go_130 ?_
        refine G_iload hC 8 9 rfl dX11_go_132 ?_
        refine G_iconst hC (v := 3) (by decide) dX11_go_134 ?_
        refine G_icmp_eq hC 163 dX11_go_135 (by decide) (fun c135 => ?_) (fun c135 => ?_)
        · have h := ifp c135 h
          refine G_lv [1, 2, 3, 4, 5, 6, 7, 8, 9, 0] rfl ?_
          exact hB163 _ _ _ _ _ _ _ _ _ _ _ _ e_model e_mwarr hfr h
        have h := ifn c135 h
        refine G_iload hC 8 9 rfl dX11_go_138 ?_
        refine G_iconst hC (v := 2) (by decide) dX11_go_140 ?_
        refine G_icmp_ne hC 167 dX11_go_141 (by decide) (fun c141 => ?_) (fun c141 => ?_)
        · have h := ifn c141 h
          refine G_lv [1, 2, 3, 4, 5, 6, 7, 8, 9, 0] rfl ?_
          exact hB167 _ _ _ _ _ _ _ _ _ _ _ _ e_model e_mwarr hfr h
        have h := ifp c141 h
        refine G_aload_n hC 0 1 rfl rfl dX11_go_144 ?_
        refine G_get hC inX11 100 (by omega) (v := .ref (ad 101)) e_model rfl 0 (by decide) m7 rfl rfl dX11_go_145 ?_
        refine G_bipush hC (v := 13) (by decide) dX11_go_148 ?_
        refine G_iload_n hC 1 2 rfl rfl dX11_go_150 ?_
        refine G_iadd hC dX11_go_151 ?_
        obtain ⟨g152, h⟩ := asn h
        refine G_iald hC 101 (by omega) e_mwarr g152 dX11_go_152 ?_
        refine G_aload_n hC 0 1 rfl rfl dX11_go_153 ?_
        refine G_get hC inX11 100 (by omega) (v := .ref (ad 101)) e_model rfl 0 (by decide) m7 rfl rfl dX11_go_154 ?_
        refine G_bipush hC (v := 102) (by decide) dX11_go_157 ?_
        obtain ⟨g159, h⟩ := asn h
        refine G_iald hC 101 (by omega) e_mwarr g159 dX11_go_159 ?_
        refine G_icmp_eq hC 167 dX11_go_160 (by decide) (fun c160 => ?_) (fun c160 => ?_)
        · have h := ifp c160 h
          refine G_lv [1, 2, 3, 4, 5, 6, 7, 8, 9, 0] rfl ?_
          exact hB167 _ _ _ _ _ _ _ _ _ _ _ _ e_model e_mwarr hfr h
        have h := ifn c160 h
        refine G_lv [1, 2, 3, 4, 5, 6, 7, 8, 9, 0] rfl ?_
        exact hB163 _ _ _ _ _ _ _ _ _ _ _ _ e_model e_mwarr hfr h
      intro en1 mtakes mmisses x1 x2 x3 x4 x5 x6 e_model e_mwarr hfr h
      rw [f_X11_go_L23] at h
      refine G_iload hC 6 6 rfl dX11_go_23 ?_
      refine G_iconst hC (v := 5) (by decide) dX11_go_25 ?_
      refine G_icmp_ge hC 312 dX11_go_26 (by decide) (fun c26 => ?_) (fun c26 => ?_)
      · have h := ifp c26 h
        have h := Option.some.inj h
        subst h
        exact Kr _ _ _ ⟨e_model, hfr⟩ dX11_go_312
      have h := ifn c26 h
      refine G_iload_n hC 2 2 rfl rfl dX11_go_29 ?_
      refine G_iload_n hC 3 3 rfl rfl dX11_go_30 ?_
      obtain ⟨g31, h⟩ := asn h
      refine G_idiv hC g31 dX11_go_31 ?_
      refine G_bipush hC (v := 10) (by decide) dX11_go_32 ?_
      refine G_irem hC (by decide) dX11_go_34 ?_
      refine G_iconst hC (v := 1) (by decide) dX11_go_35 ?_
      refine G_isub hC dX11_go_36 ?_
      refine G_istore hC 7 [(7, .int ((irm (x2 / x3) (10 : Int32)) - (1 : Int32))), (0, .ref (ad 100)), (1, .int x1), (2, .int x2), (3, .int x3), (4, .int x4), (5, .int x5), (6, .int x6)] (by decide) rfl dX11_go_37 ?_
      refine G_iload_n hC 3 4 rfl rfl dX11_go_39 ?_
      refine G_bipush hC (v := 10) (by decide) dX11_go_40 ?_
      refine G_idiv hC (by decide) dX11_go_42 ?_
      refine G_istore_n hC 3 [(3, .int (x3 / (10 : Int32))), (7, .int ((irm (x2 / x3) (10 : Int32)) - (1 : Int32))), (0, .ref (ad 100)), (1, .int x1), (2, .int x2), (4, .int x4), (5, .int x5), (6, .int x6)] rfl (by decide) rfl dX11_go_43 ?_
      refine G_iload hC 7 1 rfl dX11_go_44 ?_
      refine G_if_ge hC 64 dX11_go_46 (by decide) (fun c46 => ?_) (fun c46 => ?_)
      · have h := ifp c46 h
        refine G_aload_n hC 0 2 rfl rfl dX11_go_64 ?_
        refine G_get hC inX11 100 (by omega) (v := .ref (ad 101)) e_model rfl 0 (by decide) m7 rfl rfl dX11_go_65 ?_
        refine G_bipush hC (v := 74) (by decide) dX11_go_68 ?_
        refine G_iload hC 7 1 rfl dX11_go_70 ?_
        refine G_iadd hC dX11_go_72 ?_
        obtain ⟨g73, h⟩ := asn h
        refine G_iald hC 101 (by omega) e_mwarr g73 dX11_go_73 ?_
        refine G_istore hC 8 [(8, .int (mw ((74 : Int32) + ((irm (x2 / x3) (10 : Int32)) - (1 : Int32))).toNatClampNeg)), (3, .int (x3 / (10 : Int32))), (7, .int ((irm (x2 / x3) (10 : Int32)) - (1 : Int32))), (0, .ref (ad 100)), (1, .int x1), (2, .int x2), (4, .int x4), (5, .int x5), (6, .int x6)] (by decide) rfl dX11_go_74 ?_
        refine G_bipush hC (v := 20) (by decide) dX11_go_76 ?_
        refine G_aload_n hC 0 3 rfl rfl dX11_go_78 ?_
        refine G_get hC inX11 100 (by omega) (v := .ref (ad 101)) e_model rfl 0 (by decide) m7 rfl rfl dX11_go_79 ?_
        refine G_bipush hC (v := 84) (by decide) dX11_go_82 ?_
        refine G_iload hC 7 2 rfl dX11_go_84 ?_
        refine G_iadd hC dX11_go_86 ?_
        obtain ⟨g87, h⟩ := asn h
        refine G_iald hC 101 (by omega) e_mwarr g87 dX11_go_87 ?_
        refine G_iload hC 4 6 rfl dX11_go_88 ?_
        refine G_iadd hC dX11_go_90 ?_
        obtain ⟨q91, h91, h⟩ := bnd h
        refine G_cSi (st := []) hC _ (c_X11_lesser  l  h91) (va_cwS 2 hC.hts gX11_go_X11_lesser rfl rfl rfl (by decide +kernel) ⟨Nat.le_of_ble_eq_true rfl, Nat.le_of_ble_eq_true rfl⟩) rfl (Nat.le_of_ble_eq_true rfl) (Nat.zero_le _) (Nat.zero_le _) rfl dX11_go_91 (fun r91 enx hw => ?_)
        obtain ⟨rfl, rfl⟩ := hw
        refine G_istore hC 9 [(9, .int q91), (8, .int (mw ((74 : Int32) + ((irm (x2 / x3) (10 : Int32)) - (1 : Int32))).toNatClampNeg)), (3, .int (x3 / (10 : Int32))), (7, .int ((irm (x2 / x3) (10 : Int32)) - (1 : Int32))), (0, .ref (ad 100)), (1, .int x1), (2, .int x2), (4, .int x4), (5, .int x5), (6, .int x6)] (by decide) rfl dX11_go_94 ?_
        refine G_iload hC 8 1 rfl dX11_go_96 ?_
        refine G_iconst hC (v := 5) (by decide) dX11_go_98 ?_
        refine G_icmp_ne hC 108 dX11_go_99 (by decide) (fun c99 => ?_) (fun c99 => ?_)
        · have h := ifn c99 h
          refine G_iload hC 8 1 rfl dX11_go_108 ?_
          refine G_iconst hC (v := 4) (by decide) dX11_go_110 ?_
          refine G_icmp_ne hC 122 dX11_go_111 (by decide) (fun c111 => ?_) (fun c111 => ?_)
          · have h := ifn c111 h
            refine G_aload_n hC 0 4 rfl rfl dX11_go_122 ?_
            refine G_iload_n hC 1 5 rfl rfl dX11_go_123 ?_
            obtain ⟨q124, h124, h⟩ := bnd h
            refine G_cVi (st := []) hC _ 100 (by omega) (c_X11_heldNow  l (by omega) e_model e_mwarr h124) (cwV 1 hC.hts gX11_go_X11_heldNow rfl rfl rfl (by decide +kernel) ⟨Nat.le_of_ble_eq_true rfl, Nat.le_of_ble_eq_true rfl⟩) e_model rfl rfl (Nat.le_of_ble_eq_true rfl) (Nat.zero_le _) (Nat.zero_le _) rfl dX11_go_124 (fun r124 enx hw => ?_)
            obtain ⟨rfl, rfl⟩ := hw
            refine G_iload hC 9 0 rfl dX11_go_127 ?_
            refine G_imul hC dX11_go_129 ?_
            refine G_lv [4, 5, 6, 2, 7, 8, 9, 3, 1] rfl ?_
            exact hB130 _ _ _ _ _ _ _ _ _ _ _ _ e_model e_mwarr hfr h
          have h := ifp c111 h
          refine G_bipush hC (v := 10) (by decide) dX11_go_114 ?_
          refine G_iload hC 9 0 rfl dX11_go_116 ?_
          refine G_imul hC dX11_go_118 ?_
          refine G_goto hC 130 dX11_go_119 (by decide) ?_
          refine G_lv [4, 5, 6, 2, 7, 8, 9, 3, 1] rfl ?_
          exact hB130 _ _ _ _ _ _ _ _ _ _ _ _ e_model e_mwarr hfr h
        have h := ifp c99 h
        refine G_sipush hC (v := 400) (by decide) dX11_go_102 ?_
        refine G_goto hC 130 dX11_go_105 (by decide) ?_
        refine G_lv [4, 5, 6, 2, 7, 8, 9, 3, 1] rfl ?_
        exact hB130 _ _ _ _ _ _ _ _ _ _ _ _ e_model e_mwarr hfr h
      have h := ifn c46 h
      refine G_aload_n hC 0 2 rfl rfl dX11_go_49 ?_
      refine G_dup hC rfl dX11_go_50 ?_
      refine G_get hC inX11 100 (by omega) (v := .long mmisses) e_model rfl 16 (by decide) m196 rfl rfl dX11_go_51 ?_
      refine G_ldc2 hC (v := (400)) k199 dX11_go_54 ?_
      refine G_lmul hC dX11_go_57 ?_
      refine G_put hC inX11 tyX11 tyX11_ok nmX11 100 (by omega) e_model rfl 16 (by decide) m196 rfl rfl (ty := .long) rfl rfl rfl (Nat.le_of_ble_eq_true rfl) dX11_go_58 (fun en2 e_model fr => ?_)
      have e_model : en2 100 = .inr (8, [.ref (ad 101), .ref (ad 102), .ref (ad 103), .ref (ad 104), .int mtexted, .int mundo, .long mabove, .long mbelow, .ref (ad 105), .ref (ad 106), .ref (ad 107), .ref (ad 108), .int mitems, .int mat, .int mfault, .int mtakes, .long (mmisses * (400 : Int64)), .long mbest, .ref (ad 109), .long mh]) := e_model
      have e_mwarr := (fr 101 (by omega)).trans e_mwarr
      have hfr : ∀ j, (j < 100 ∨ 101 ≤ j) → en2 j = en j := fun j o0 => (fr j (by omega)).trans (hfr j o0)
      refine G_goto hC 306 dX11_go_61 (by decide) ?_
      refine G_lv [2, 3, 4, 0, 5, 6, 7] rfl ?_
      exact hB306 _ _ _ _ _ _ _ _ _ e_model e_mwarr hfr h
  unfold f_X11_go at h
  have hfr : ∀ j, (j < 100 ∨ 101 ≤ j) → en j = en j := fun _ _ => rfl
  refine G_sipush hC (v := 10000) (by decide) dX11_go_0 ?_
  refine G_istore_n hC 3 [(3, .int (10000 : Int32)), (0, .ref (ad 100)), (1, .int x1), (2, .int x2)] rfl (by decide) rfl dX11_go_3 ?_
  refine G_iconst hC (v := 0) (by decide) dX11_go_4 ?_
  refine G_istore hC 4 [(4, .int (0 : Int32)), (3, .int (10000 : Int32)), (0, .ref (ad 100)), (1, .int x1), (2, .int x2)] (by decide) rfl dX11_go_5 ?_
  refine G_iconst hC (v := 0) (by decide) dX11_go_7 ?_
  refine G_istore hC 5 [(5, .int (0 : Int32)), (4, .int (0 : Int32)), (3, .int (10000 : Int32)), (0, .ref (ad 100)), (1, .int x1), (2, .int x2)] (by decide) rfl dX11_go_8 ?_
  refine G_aload_n hC 0 3 rfl rfl dX11_go_10 ?_
  refine G_iconst hC (v := 0) (by decide) dX11_go_11 ?_
  refine G_put hC inX11 tyX11 tyX11_ok nmX11 100 (by omega) e_model rfl 15 (by decide) m193 rfl rfl (ty := .int) rfl rfl rfl (Nat.le_of_ble_eq_true rfl) dX11_go_12 (fun en2 e_model fr => ?_)
  have e_model : en2 100 = .inr (8, [.ref (ad 101), .ref (ad 102), .ref (ad 103), .ref (ad 104), .int mtexted, .int mundo, .long mabove, .long mbelow, .ref (ad 105), .ref (ad 106), .ref (ad 107), .ref (ad 108), .int mitems, .int mat, .int mfault, .int (0 : Int32), .long mmisses, .long mbest, .ref (ad 109), .long mh]) := e_model
  have e_mwarr := (fr 101 (by omega)).trans e_mwarr
  have hfr : ∀ j, (j < 100 ∨ 101 ≤ j) → en2 j = en j := fun j o0 => (fr j (by omega)).trans (hfr j o0)
  refine G_aload_n hC 0 3 rfl rfl dX11_go_15 ?_
  refine G_lconst hC (v := 1) (by decide) dX11_go_16 ?_
  refine G_put hC inX11 tyX11 tyX11_ok nmX11 100 (by omega) e_model rfl 16 (by decide) m196 rfl rfl (ty := .long) rfl rfl rfl (Nat.le_of_ble_eq_true rfl) dX11_go_17 (fun en3 e_model fr => ?_)
  have e_model : en3 100 = .inr (8, [.ref (ad 101), .ref (ad 102), .ref (ad 103), .ref (ad 104), .int mtexted, .int mundo, .long mabove, .long mbelow, .ref (ad 105), .ref (ad 106), .ref (ad 107), .ref (ad 108), .int mitems, .int mat, .int mfault, .int (0 : Int32), .long (1 : Int64), .long mbest, .ref (ad 109), .long mh]) := e_model
  have e_mwarr := (fr 101 (by omega)).trans e_mwarr
  have hfr : ∀ j, (j < 100 ∨ 101 ≤ j) → en3 j = en j := fun j o0 => (fr j (by omega)).trans (hfr j o0)
  refine G_iconst hC (v := 0) (by decide) dX11_go_20 ?_
  refine G_istore hC 6 [(6, .int (0 : Int32)), (5, .int (0 : Int32)), (4, .int (0 : Int32)), (3, .int (10000 : Int32)), (0, .ref (ad 100)), (1, .int x1), (2, .int x2)] (by decide) rfl dX11_go_21 ?_
  refine G_lv [4, 5, 6, 3, 2, 1, 0] rfl ?_
  exact hL23 FU _ _ _ _ _ _ _ _ _ e_model e_mwarr hfr h
def f_X11_share_L6   : Nat → Int64 → Int64 → Int64 → Int64 → Int64 → Int64 → Option (Int32 × Int64 × Int64)
  | 0, _, _, _, _, _, _ => none
  | fu + 1, mabove, mbelow, x1, x3, x5, x7 => if lg_cmp x7 (0 : Int64) = 0 then (if x5 = 0 then none else (if x5 = 0 then none else (some ((1 : Int32), x1 / x5, x3 / x5)))) else (if x7 = 0 then none else (f_X11_share_L6 fu mabove mbelow x1 x3 x7 (lrm x5 x7)))
def f_X11_share (mabove : Int64) (mbelow : Int64) (x1 : Int64) (x3 : Int64) : Option (Int32 × Int64 × Int64) := f_X11_share_L6 FU mabove mbelow x1 x3 x1 x3
set_option maxHeartbeats 4000000 in
set_option maxRecDepth 100000 in
theorem c_X11_share {D : va_G} {cs : Nat → ClassId} {sa : Nat → Nat} {n : Nat} {ad : Nat → Nat} {A : Nat → Prop} (l : Launch) {en : Nat → va_E}  {mtexted : Int32} {mundo : Int32} {mabove : Int64} {mbelow : Int64} {mitems : Int32} {mat : Int32} {mfault : Int32} {mtakes : Int32} {mmisses : Int64} {mbest : Int64} {mh : Int64} {x1 : Int64} {x3 : Int64}  {q : Int32 × Int64 × Int64} (hn : 110 ≤ n) (e_model : en 100 = .inr (8, [.ref (ad 101), .ref (ad 102), .ref (ad 103), .ref (ad 104), .int mtexted, .int mundo, .long mabove, .long mbelow, .ref (ad 105), .ref (ad 106), .ref (ad 107), .ref (ad 108), .int mitems, .int mat, .int mfault, .int mtakes, .long mmisses, .long mbest, .ref (ad 109), .long mh])) (h : f_X11_share mabove mbelow x1 x3 = some q) : Met l yX11_share wsX11_share { frames := 0, cells := 0, slots := 0, locals := 0 } (va_Pc [.ref (ad 100), .long x1, .long x3] (Wd D cs sa n ad A en)) (va_Qi (fun r u => q.1 = r ∧ u 100 = .inr (8, [.ref (ad 101), .ref (ad 102), .ref (ad 103), .ref (ad 104), .int mtexted, .int mundo, .long q.2.1, .long q.2.2, .ref (ad 105), .ref (ad 106), .ref (ad 107), .ref (ad 108), .int mitems, .int mat, .int mfault, .int mtakes, .long mmisses, .long mbest, .ref (ad 109), .long mh]) ∧ (∀ j, (j < 100 ∨ 101 ≤ j) → u j = en j)) (Wd D cs sa n ad A) A) 0 0 A := by
  refine G_startI cX11_share 11 [(0, .ref (ad 100)), (1, .long x1), (3, .long x3)] (by decide) rfl (Nat.le_of_ble_eq_true rfl) rfl ?_
  intro p e s m args below meth c Q hC hnm Kr
  have inX11 : ∀ w ∈ u_ws RX11 TX11 20, w ∈ wsX11_share := by decide +kernel
  have m201 : Cond.fieldLink RX11 201 "TongueTipModel" "above" "J" ∈ wsX11_share := by decide +kernel
  have m24 : Cond.fieldLink RX11 24 "TongueTipModel" "below" "J" ∈ wsX11_share := by decide +kernel
  have hL6 : ∀ (fu6 : Nat), ∀ (en1 : Nat → va_E) (mabove : Int64) (mbelow : Int64) (x1 : Int64) (x3 : Int64) (x5 : Int64) (x7 : Int64), en1 100 = .inr (8, [.ref (ad 101), .ref (ad 102), .ref (ad 103), .ref (ad 104), .int mtexted, .int mundo, .long mabove, .long mbelow, .ref (ad 105), .ref (ad 106), .ref (ad 107), .ref (ad 108), .int mitems, .int mat, .int mfault, .int mtakes, .long mmisses, .long mbest, .ref (ad 109), .long mh]) → (∀ j, (j < 100 ∨ 101 ≤ j) → en1 j = en j) → f_X11_share_L6 fu6 mabove mbelow x1 x3 x5 x7 = some q → G p l e ({ frames := 0, cells := 0, slots := 0, locals := 0 } : Room) s m args below meth c D n ad A 11 0 0 Q en1 6 [(0, .ref (ad 100)), (1, .long x1), (3, .long x3), (5, .long x5), (7, .long x7)] [] := by
    intro fu6
    induction fu6 with
    | zero =>
      intro en1 mabove mbelow x1 x3 x5 x7 e_model hfr h
      rw [f_X11_share_L6] at h
      cases h
    | succ fu6 ih6 =>
      intro en1 mabove mbelow x1 x3 x5 x7 e_model hfr h
      rw [f_X11_share_L6] at h
      refine G_lload hC 7 4 rfl dX11_share_6 ?_
      refine G_lconst hC (v := 0) (by decide) dX11_share_8 ?_
      refine G_lcmp hC dX11_share_9 ?_
      refine G_if_eq hC 31 dX11_share_10 (by decide) (fun c10 => ?_) (fun c10 => ?_)
      · have h := ifp c10 h
        refine G_aload_n hC 0 0 rfl rfl dX11_share_31 ?_
        refine G_lload_n hC 1 1 rfl rfl dX11_share_32 ?_
        refine G_lload hC 5 3 rfl dX11_share_33 ?_
        obtain ⟨g35, h⟩ := asn h
        refine G_ldiv hC g35 dX11_share_35 ?_
        refine G_put hC inX11 tyX11 tyX11_ok nmX11 100 (by omega) e_model rfl 6 (by decide) m201 rfl rfl (ty := .long) rfl rfl rfl (Nat.le_of_ble_eq_true rfl) dX11_share_36 (fun en2 e_model fr => ?_)
        have e_model : en2 100 = .inr (8, [.ref (ad 101), .ref (ad 102), .ref (ad 103), .ref (ad 104), .int mtexted, .int mundo, .long (x1 / x5), .long mbelow, .ref (ad 105), .ref (ad 106), .ref (ad 107), .ref (ad 108), .int mitems, .int mat, .int mfault, .int mtakes, .long mmisses, .long mbest, .ref (ad 109), .long mh]) := e_model
        have hfr : ∀ j, (j < 100 ∨ 101 ≤ j) → en2 j = en j := fun j o0 => (fr j (by omega)).trans (hfr j o0)
        refine G_aload_n hC 0 0 rfl rfl dX11_share_39 ?_
        refine G_lload_n hC 3 2 rfl rfl dX11_share_40 ?_
        refine G_lload hC 5 3 rfl dX11_share_41 ?_
        obtain ⟨g43, h⟩ := asn h
        refine G_ldiv hC g43 dX11_share_43 ?_
        refine G_put hC inX11 tyX11 tyX11_ok nmX11 100 (by omega) e_model rfl 7 (by decide) m24 rfl rfl (ty := .long) rfl rfl rfl (Nat.le_of_ble_eq_true rfl) dX11_share_44 (fun en3 e_model fr => ?_)
        have e_model : en3 100 = .inr (8, [.ref (ad 101), .ref (ad 102), .ref (ad 103), .ref (ad 104), .int mtexted, .int mundo, .long (x1 / x5), .long (x3 / x5), .ref (ad 105), .ref (ad 106), .ref (ad 107), .ref (ad 108), .int mitems, .int mat, .int mfault, .int mtakes, .long mmisses, .long mbest, .ref (ad 109), .long mh]) := e_model
        have hfr : ∀ j, (j < 100 ∨ 101 ≤ j) → en3 j = en j := fun j o0 => (fr j (by omega)).trans (hfr j o0)
        refine G_iconst hC (v := 1) (by decide) dX11_share_47 ?_
        have h := Option.some.inj h
        subst h
        exact Kr _ _ _ _ (nar_i _) ⟨rfl, e_model, hfr⟩ dX11_share_48
      have h := ifn c10 h
      refine G_lload hC 5 3 rfl dX11_share_13 ?_
      refine G_lload hC 7 4 rfl dX11_share_15 ?_
      obtain ⟨g17, h⟩ := asn h
      refine G_lrem hC g17 dX11_share_17 ?_
      refine G_lstore hC 9 [(9, .long (lrm x5 x7)), (0, .ref (ad 100)), (1, .long x1), (3, .long x3), (5, .long x5), (7, .long x7)] (by decide) rfl dX11_share_18 ?_
      refine G_lload hC 7 5 rfl dX11_share_20 ?_
      refine G_lstore hC 5 [(5, .long x7), (9, .long (lrm x5 x7)), (0, .ref (ad 100)), (1, .long x1), (3, .long x3), (7, .long x7)] (by decide) rfl dX11_share_22 ?_
      refine G_lload hC 9 1 rfl dX11_share_24 ?_
      refine G_lstore hC 7 [(7, .long (lrm x5 x7)), (5, .long x7), (9, .long (lrm x5 x7)), (0, .ref (ad 100)), (1, .long x1), (3, .long x3)] (by decide) rfl dX11_share_26 ?_
      refine G_goto hC 6 dX11_share_28 (by decide) ?_
      refine G_lv [3, 4, 5, 1, 0] rfl ?_
      exact ih6 _ _ _ _ _ _ _ e_model hfr h
  unfold f_X11_share at h
  have hfr : ∀ j, (j < 100 ∨ 101 ≤ j) → en j = en j := fun _ _ => rfl
  refine G_lload_n hC 1 1 rfl rfl dX11_share_0 ?_
  refine G_lstore hC 5 [(5, .long x1), (0, .ref (ad 100)), (1, .long x1), (3, .long x3)] (by decide) rfl dX11_share_1 ?_
  refine G_lload_n hC 3 3 rfl rfl dX11_share_3 ?_
  refine G_lstore hC 7 [(7, .long x3), (5, .long x1), (0, .ref (ad 100)), (1, .long x1), (3, .long x3)] (by decide) rfl dX11_share_4 ?_
  refine G_lv [2, 3, 4, 1, 0] rfl ?_
  exact hL6 FU _ _ _ _ _ _ _ e_model hfr h
def f_X11_comes_B16 (mw : Nat → Int32)  (mabove : Int64) (mbelow : Int64) (mrefused : Nat → Int32) (mtakes : Int32) (mmisses : Int64) : Option (Int32 × Int64 × Int64 × (Nat → Int32) × Int32 × Int64) := Option.bind (f_X11_told mrefused (-2 : Int32)) (fun q19 => some (q19.1, mabove, mbelow, q19.2, mtakes, mmisses))
def f_X11_comes (mw : Nat → Int32) (mabove : Int64) (mbelow : Int64) (mrefused : Nat → Int32) (mtakes : Int32) (mmisses : Int64) (x1 : Int32) (x2 : Int32) : Option (Int32 × Int64 × Int64 × (Nat → Int32) × Int32 × Int64) := Option.bind (f_X11_isOne mw x1) (fun q2 => if q2 = 0 then (f_X11_comes_B16 mw mabove mbelow mrefused mtakes mmisses) else (Option.bind (f_X11_isRow mw x2) (fun q10 => if q10 = 0 then (f_X11_comes_B16 mw mabove mbelow mrefused mtakes mmisses) else (Option.bind (f_X11_go mw mtakes mmisses x1 x2) (fun q26 => Option.bind (f_X11_share mabove mbelow ((10240000000000 : Int64) - q26.2) (10240000000000 : Int64)) (fun q41 => some (q26.1, q41.2.1, q41.2.2, mrefused, q26.1, q26.2)))))))
set_option maxHeartbeats 4000000 in
set_option maxRecDepth 100000 in
theorem c_X11_comes {D : va_G} {cs : Nat → ClassId} {sa : Nat → Nat} {n : Nat} {ad : Nat → Nat} {A : Nat → Prop} (l : Launch) {en : Nat → va_E}  {mw : Nat → Int32} {mtexted : Int32} {mundo : Int32} {mabove : Int64} {mbelow : Int64} {mrefused : Nat → Int32} {mitems : Int32} {mat : Int32} {mfault : Int32} {mtakes : Int32} {mmisses : Int64} {mbest : Int64} {mh : Int64} {x1 : Int32} {x2 : Int32}  {q : Int32 × Int64 × Int64 × (Nat → Int32) × Int32 × Int64} (hn : 110 ≤ n) (e_model : en 100 = .inr (8, [.ref (ad 101), .ref (ad 102), .ref (ad 103), .ref (ad 104), .int mtexted, .int mundo, .long mabove, .long mbelow, .ref (ad 105), .ref (ad 106), .ref (ad 107), .ref (ad 108), .int mitems, .int mat, .int mfault, .int mtakes, .long mmisses, .long mbest, .ref (ad 109), .long mh])) (e_mwarr : en 101 = .inl (cs 1, 960, .inl (mw))) (e_mrefusedarr : en 105 = .inl (cs 1, 3, .inl (mrefused))) (h : f_X11_comes mw mabove mbelow mrefused mtakes mmisses x1 x2 = some q) : Met l yX11_comes wsX11_comes { frames := 3, cells := 0, slots := 0, locals := 77 } (va_Pc [.ref (ad 100), .int x1, .int x2] (Wd D cs sa n ad A en)) (va_Qi (fun r u => q.1 = r ∧ u 100 = .inr (8, [.ref (ad 101), .ref (ad 102), .ref (ad 103), .ref (ad 104), .int mtexted, .int mundo, .long q.2.1, .long q.2.2.1, .ref (ad 105), .ref (ad 106), .ref (ad 107), .ref (ad 108), .int mitems, .int mat, .int mfault, .int q.2.2.2.2.1, .long q.2.2.2.2.2, .long mbest, .ref (ad 109), .long mh]) ∧ u 105 = .inl (cs 1, 3, .inl (q.2.2.2.1)) ∧ (∀ j, (j < 100 ∨ 101 ≤ j) → (j < 105 ∨ 106 ≤ j) → u j = en j)) (Wd D cs sa n ad A) A) 0 0 A := by
  refine G_startI cX11_comes 3 [(0, .ref (ad 100)), (1, .int x1), (2, .int x2)] (by decide) rfl (Nat.le_of_ble_eq_true rfl) rfl ?_
  intro p e s m args below meth c Q hC hnm Kr
  have inX11 : ∀ w ∈ u_ws RX11 TX11 20, w ∈ wsX11_comes := by decide +kernel
  have k210 : Cond.constantLong RX11 210 (10240000000000) ∈ wsX11_comes := by decide +kernel
  have m193 : Cond.fieldLink RX11 193 "TongueTipModel" "takes" "I" ∈ wsX11_comes := by decide +kernel
  have m196 : Cond.fieldLink RX11 196 "TongueTipModel" "misses" "J" ∈ wsX11_comes := by decide +kernel
  have hB16 : ∀ (en1 : Nat → va_E) (mabove : Int64) (mbelow : Int64) (mrefused : Nat → Int32) (mtakes : Int32) (mmisses : Int64), en1 100 = .inr (8, [.ref (ad 101), .ref (ad 102), .ref (ad 103), .ref (ad 104), .int mtexted, .int mundo, .long mabove, .long mbelow, .ref (ad 105), .ref (ad 106), .ref (ad 107), .ref (ad 108), .int mitems, .int mat, .int mfault, .int mtakes, .long mmisses, .long mbest, .ref (ad 109), .long mh]) → en1 101 = .inl (cs 1, 960, .inl (mw)) → en1 105 = .inl (cs 1, 3, .inl (mrefused)) → (∀ j, (j < 100 ∨ 101 ≤ j) → (j < 105 ∨ 106 ≤ j) → en1 j = en j) → f_X11_comes_B16 mw mabove mbelow mrefused mtakes mmisses = some q → G p l e ({ frames := 3, cells := 0, slots := 0, locals := 77 } : Room) s m args below meth c D n ad A 3 0 0 Q en1 16 [(0, .ref (ad 100))] [] := by
    intro en1 mabove mbelow mrefused mtakes mmisses e_model e_mwarr e_mrefusedarr hfr h
    unfold f_X11_comes_B16 at h
    refine G_aload_n hC 0 0 rfl rfl dX11_comes_16 ?_
    refine G_bipush hC (v := (-2)) (by decide) dX11_comes_17 ?_
    obtain ⟨q19, h19, h⟩ := bnd h
    refine G_cVi (st := []) hC _ 100 (by omega) (c_X11_told  l (by omega) e_model e_mrefusedarr h19) (cwV 1 hC.hts gX11_comes_X11_told rfl rfl rfl (by decide +kernel) ⟨Nat.le_of_ble_eq_true rfl, Nat.le_of_ble_eq_true rfl⟩) e_model rfl rfl (Nat.le_of_ble_eq_true rfl) (Nat.zero_le _) (Nat.zero_le _) rfl dX11_comes_19 (fun r19 en2 hw => ?_)
    obtain ⟨rfl, e_mrefusedarr, fr⟩ := hw
    have e_model := (fr 100 (by omega)).trans e_model
    have e_mwarr := (fr 101 (by omega)).trans e_mwarr
    have hfr : ∀ j, (j < 100 ∨ 101 ≤ j) → (j < 105 ∨ 106 ≤ j) → en2 j = en j := fun j o0 o1 => (fr j (by omega)).trans (hfr j o0 o1)
    have h := Option.some.inj h
    subst h
    exact Kr _ _ _ _ (nar_i _) ⟨rfl, e_model, e_mrefusedarr, hfr⟩ dX11_comes_22
  unfold f_X11_comes at h
  have hfr : ∀ j, (j < 100 ∨ 101 ≤ j) → (j < 105 ∨ 106 ≤ j) → en j = en j := fun _ _ _ => rfl
  refine G_aload_n hC 0 0 rfl rfl dX11_comes_0 ?_
  refine G_iload_n hC 1 1 rfl rfl dX11_comes_1 ?_
  obtain ⟨q2, h2, h⟩ := bnd h
  refine G_cVi (st := []) hC _ 100 (by omega) (c_X11_isOne  l (by omega) e_model e_mwarr h2) (cwV 1 hC.hts gX11_comes_X11_isOne rfl rfl rfl (by decide +kernel) ⟨Nat.le_of_ble_eq_true rfl, Nat.le_of_ble_eq_true rfl⟩) e_model rfl rfl (Nat.le_of_ble_eq_true rfl) (Nat.zero_le _) (Nat.zero_le _) rfl dX11_comes_2 (fun r2 enx hw => ?_)
  obtain ⟨rfl, rfl⟩ := hw
  refine G_if_eq hC 16 dX11_comes_5 (by decide) (fun c5 => ?_) (fun c5 => ?_)
  · have h := ifp c5 h
    refine G_lv [0] rfl ?_
    exact hB16 _ _ _ _ _ _ e_model e_mwarr e_mrefusedarr hfr h
  have h := ifn c5 h
  refine G_aload_n hC 0 0 rfl rfl dX11_comes_8 ?_
  refine G_iload_n hC 2 2 rfl rfl dX11_comes_9 ?_
  obtain ⟨q10, h10, h⟩ := bnd h
  refine G_cVi (st := []) hC _ 100 (by omega) (c_X11_isRow  l (by omega) e_model e_mwarr h10) (cwV 1 hC.hts gX11_comes_X11_isRow rfl rfl rfl (by decide +kernel) ⟨Nat.le_of_ble_eq_true rfl, Nat.le_of_ble_eq_true rfl⟩) e_model rfl rfl (Nat.le_of_ble_eq_true rfl) (Nat.zero_le _) (Nat.zero_le _) rfl dX11_comes_10 (fun r10 enx hw => ?_)
  obtain ⟨rfl, rfl⟩ := hw
  refine G_if_ne hC 23 dX11_comes_13 (by decide) (fun c13 => ?_) (fun c13 => ?_)
  · have h := ifn c13 h
    refine G_aload_n hC 0 0 rfl rfl dX11_comes_23 ?_
    refine G_iload_n hC 1 1 rfl rfl dX11_comes_24 ?_
    refine G_iload_n hC 2 2 rfl rfl dX11_comes_25 ?_
    obtain ⟨q26, h26, h⟩ := bnd h
    refine G_cVv (st := []) hC _ 100 (by omega) (c_X11_go  l (by omega) e_model e_mwarr h26) (cwV 2 hC.hts gX11_comes_X11_go rfl rfl rfl (by decide +kernel) ⟨Nat.le_of_ble_eq_true rfl, Nat.le_of_ble_eq_true rfl⟩) e_model rfl rfl (Nat.le_of_ble_eq_true rfl) (Nat.zero_le _) (Nat.zero_le _) rfl dX11_comes_26 (fun en2 hw => ?_)
    obtain ⟨e_model, fr⟩ := hw
    have e_mwarr := (fr 101 (by omega)).trans e_mwarr
    have e_mrefusedarr := (fr 105 (by omega)).trans e_mrefusedarr
    have hfr : ∀ j, (j < 100 ∨ 101 ≤ j) → (j < 105 ∨ 106 ≤ j) → en2 j = en j := fun j o0 o1 => (fr j (by omega)).trans (hfr j o0 o1)
    refine G_aload_n hC 0 0 rfl rfl dX11_comes_29 ?_
    refine G_ldc2 hC (v := (10240000000000)) k210 dX11_comes_30 ?_
    refine G_aload_n hC 0 0 rfl rfl dX11_comes_33 ?_
    refine G_get hC inX11 100 (by omega) (v := .long q26.2) e_model rfl 16 (by decide) m196 rfl rfl dX11_comes_34 ?_
    refine G_lsub hC dX11_comes_37 ?_
    refine G_ldc2 hC (v := (10240000000000)) k210 dX11_comes_38 ?_
    obtain ⟨q41, h41, h⟩ := bnd h
    refine G_cVi (st := []) hC _ 100 (by omega) (c_X11_share  l (by omega) e_model h41) (cwV 2 hC.hts gX11_comes_X11_share rfl rfl rfl (by decide +kernel) ⟨Nat.le_of_ble_eq_true rfl, Nat.le_of_ble_eq_true rfl⟩) e_model rfl rfl (Nat.le_of_ble_eq_true rfl) (Nat.zero_le _) (Nat.zero_le _) rfl dX11_comes_41 (fun r41 en3 hw => ?_)
    obtain ⟨rfl, e_model, fr⟩ := hw
    have e_mwarr := (fr 101 (by omega)).trans e_mwarr
    have e_mrefusedarr := (fr 105 (by omega)).trans e_mrefusedarr
    have hfr : ∀ j, (j < 100 ∨ 101 ≤ j) → (j < 105 ∨ 106 ≤ j) → en3 j = en j := fun j o0 o1 => (fr j (by omega)).trans (hfr j o0 o1)
    refine G_pop hC rfl dX11_comes_44 ?_
    refine G_aload_n hC 0 0 rfl rfl dX11_comes_45 ?_
    refine G_get hC inX11 100 (by omega) (v := .int q26.1) e_model rfl 15 (by decide) m193 rfl rfl dX11_comes_46 ?_
    have h := Option.some.inj h
    subst h
    exact Kr _ _ _ _ (nar_i _) ⟨rfl, e_model, e_mrefusedarr, hfr⟩ dX11_comes_49
  have h := ifp c13 h
  refine G_lv [0] rfl ?_
  exact hB16 _ _ _ _ _ _ e_model e_mwarr e_mrefusedarr hfr h
def f_X11_isOutright_B35 (mw : Nat → Int32) (rL4 : Int32 → Int32 → Option (Int32)) (x3 : Int32) (s0 : Int32) : Option (Int32) := rL4 s0 (x3 / (10 : Int32))
def f_X11_isOutright_B30 (mw : Nat → Int32) (rL4 : Int32 → Int32 → Option (Int32)) (x3 : Int32) : Option (Int32) := f_X11_isOutright_B35 mw rL4 x3 (1 : Int32)
def f_X11_isOutright_L4 (mw : Nat → Int32)  : Nat → Int32 → Int32 → Option (Int32)
  | 0, _, _ => none
  | fu + 1, x2, x3 => if x3 ≤ 0 then (if x2 = 0 ∨ x2 = 1 then (some x2) else none) else (if x2 = 0 then (if ((74 : Int32) + (irm x3 (10 : Int32))) - (1 : Int32) < 0 ∨ 960 ≤ (((74 : Int32) + (irm x3 (10 : Int32))) - (1 : Int32)).toNatClampNeg then none else (if mw (((74 : Int32) + (irm x3 (10 : Int32))) - (1 : Int32)).toNatClampNeg = (5 : Int32) then (f_X11_isOutright_B30 mw (f_X11_isOutright_L4 mw fu) x3) else (f_X11_isOutright_B35 mw (f_X11_isOutright_L4 mw fu) x3 (0 : Int32)))) else (f_X11_isOutright_B30 mw (f_X11_isOutright_L4 mw fu) x3))
def f_X11_isOutright (mw : Nat → Int32) (x1 : Int32) : Option (Int32) := f_X11_isOutright_L4 mw FU (0 : Int32) x1
set_option maxHeartbeats 4000000 in
set_option maxRecDepth 100000 in
theorem c_X11_isOutright {D : va_G} {cs : Nat → ClassId} {sa : Nat → Nat} {n : Nat} {ad : Nat → Nat} {A : Nat → Prop} (l : Launch) {en : Nat → va_E}  {mw : Nat → Int32} {mtexted : Int32} {mundo : Int32} {mabove : Int64} {mbelow : Int64} {mitems : Int32} {mat : Int32} {mfault : Int32} {mtakes : Int32} {mmisses : Int64} {mbest : Int64} {mh : Int64} {x1 : Int32}  {q : Int32} (hn : 110 ≤ n) (e_model : en 100 = .inr (8, [.ref (ad 101), .ref (ad 102), .ref (ad 103), .ref (ad 104), .int mtexted, .int mundo, .long mabove, .long mbelow, .ref (ad 105), .ref (ad 106), .ref (ad 107), .ref (ad 108), .int mitems, .int mat, .int mfault, .int mtakes, .long mmisses, .long mbest, .ref (ad 109), .long mh])) (e_mwarr : en 101 = .inl (cs 1, 960, .inl (mw))) (h : f_X11_isOutright mw x1 = some q) : Met l yX11_isOutright wsX11_isOutright { frames := 0, cells := 0, slots := 0, locals := 0 } (va_Pc [.ref (ad 100), .int x1] (Wd D cs sa n ad A en)) (va_Qi (fun r u => q = r ∧ en = u) (Wd D cs sa n ad A) A) 0 0 A := by
  refine G_startI cX11_isOutright 4 [(0, .ref (ad 100)), (1, .int x1)] (by decide) rfl (Nat.le_of_ble_eq_true rfl) rfl ?_
  intro p e s m args below meth c Q hC hnm Kr
  have inX11 : ∀ w ∈ u_ws RX11 TX11 20, w ∈ wsX11_isOutright := by decide +kernel
  have m7 : Cond.fieldLink RX11 7 "TongueTipModel" "w" "[I" ∈ wsX11_isOutright := by decide +kernel
  have hL4 : ∀ (fu4 : Nat), ∀ (x2 : Int32) (x3 : Int32), f_X11_isOutright_L4 mw fu4 x2 x3 = some q → G p l e ({ frames := 0, cells := 0, slots := 0, locals := 0 } : Room) s m args below meth c D n ad A 4 0 0 Q en 4 [(0, .ref (ad 100)), (2, .int x2), (3, .int x3)] [] := by
    intro fu4
    induction fu4 with
    | zero =>
      intro x2 x3 h
      rw [f_X11_isOutright_L4] at h
      cases h
    | succ fu4 ih4 =>
      have hB35 : ∀ (x3 : Int32) (s0 : Int32), f_X11_isOutright_B35 mw (f_X11_isOutright_L4 mw fu4) x3 s0 = some q → G p l e ({ frames := 0, cells := 0, slots := 0, locals := 0 } : Room) s m args below meth c D n ad A 4 0 0 Q en 35 [(0, .ref (ad 100)), (3, .int x3)] [.int s0] := by
        intro x3 s0 h
        unfold f_X11_isOutright_B35 at h
        refine G_istore_n hC 2 [(2, .int s0), (0, .ref (ad 100)), (3, .int x3)] rfl (by decide) rfl dX11_isOutright_35 ?_
        refine G_iload_n hC 3 2 rfl rfl dX11_isOutright_36 ?_
        refine G_bipush hC (v := 10) (by decide) dX11_isOutright_37 ?_
        refine G_idiv hC (by decide) dX11_isOutright_39 ?_
        refine G_istore_n hC 3 [(3, .int (x3 / (10 : Int32))), (2, .int s0), (0, .ref (ad 100))] rfl (by decide) rfl dX11_isOutright_40 ?_
        refine G_goto hC 4 dX11_isOutright_41 (by decide) ?_
        refine G_lv [2, 1, 0] rfl ?_
        exact ih4 _ _ h
      have hB30 : ∀ (x3 : Int32), f_X11_isOutright_B30 mw (f_X11_isOutright_L4 mw fu4) x3 = some q → G p l e ({ frames := 0, cells := 0, slots := 0, locals := 0 } : Room) s m args below meth c D n ad A 4 0 0 Q en 30 [(0, .ref (ad 100)), (3, .int x3)] [] := by
        intro x3 h
        unfold f_X11_isOutright_B30 at h
        refine G_iconst hC (v := 1) (by decide) dX11_isOutright_30 ?_
        refine G_goto hC 35 dX11_isOutright_31 (by decide) ?_
        refine G_lv [0, 1] rfl ?_
        exact hB35 _ _ h
      intro x2 x3 h
      rw [f_X11_isOutright_L4] at h
      refine G_iload_n hC 3 2 rfl rfl dX11_isOutright_4 ?_
      refine G_if_le hC 44 dX11_isOutright_5 (by decide) (fun c5 => ?_) (fun c5 => ?_)
      · have h := ifp c5 h
        refine G_iload_n hC 2 1 rfl rfl dX11_isOutright_44 ?_
        obtain ⟨g45, h⟩ := asr h
        have h := Option.some.inj h
        subst h
        exact Kr _ _ _ _ (nar_b g45) ⟨rfl, rfl⟩ dX11_isOutright_45
      have h := ifn c5 h
      refine G_iload_n hC 2 1 rfl rfl dX11_isOutright_8 ?_
      refine G_if_ne hC 30 dX11_isOutright_9 (by decide) (fun c9 => ?_) (fun c9 => ?_)
      · have h := ifn c9 h
        refine G_lv [0, 2] rfl ?_
        exact hB30 _ h
      have h := ifp c9 h
      refine G_aload_n hC 0 0 rfl rfl dX11_isOutright_12 ?_
      refine G_get hC inX11 100 (by omega) (v := .ref (ad 101)) e_model rfl 0 (by decide) m7 rfl rfl dX11_isOutright_13 ?_
      refine G_bipush hC (v := 74) (by decide) dX11_isOutright_16 ?_
      refine G_iload_n hC 3 2 rfl rfl dX11_isOutright_18 ?_
      refine G_bipush hC (v := 10) (by decide) dX11_isOutright_19 ?_
      refine G_irem hC (by decide) dX11_isOutright_21 ?_
      refine G_iadd hC dX11_isOutright_22 ?_
      refine G_iconst hC (v := 1) (by decide) dX11_isOutright_23 ?_
      refine G_isub hC dX11_isOutright_24 ?_
      obtain ⟨g25, h⟩ := asn h
      refine G_iald hC 101 (by omega) e_mwarr g25 dX11_isOutright_25 ?_
      refine G_iconst hC (v := 5) (by decide) dX11_isOutright_26 ?_
      refine G_icmp_ne hC 34 dX11_isOutright_27 (by decide) (fun c27 => ?_) (fun c27 => ?_)
      · have h := ifn c27 h
        refine G_iconst hC (v := 0) (by decide) dX11_isOutright_34 ?_
        refine G_lv [0, 2] rfl ?_
        exact hB35 _ _ h
      have h := ifp c27 h
      refine G_lv [0, 2] rfl ?_
      exact hB30 _ h
  unfold f_X11_isOutright at h
  refine G_iconst hC (v := 0) (by decide) dX11_isOutright_0 ?_
  refine G_istore_n hC 2 [(2, .int (0 : Int32)), (0, .ref (ad 100)), (1, .int x1)] rfl (by decide) rfl dX11_isOutright_1 ?_
  refine G_iload_n hC 1 2 rfl rfl dX11_isOutright_2 ?_
  refine G_istore_n hC 3 [(3, .int x1), (2, .int (0 : Int32)), (0, .ref (ad 100)), (1, .int x1)] rfl (by decide) rfl dX11_isOutright_3 ?_
  refine G_lv [2, 1, 0] rfl ?_
  exact hL4 FU _ _ h
def f_X11_findBest_B120 (mw : Nat → Int32) (rL52 : Int32 → Int64 → Int64 → Int32 → Int32 → Int32 → Int32 → Int32 → Int32 → Option (Int32 × Int32 × Int64 × Int64)) (mtakes : Int32) (mmisses : Int64) (mbest : Int64) (x1 : Int32) (x2 : Int32) (x3 : Int32) (x4 : Int32) (x5 : Int32) (x6 : Int32) : Option (Int32 × Int32 × Int64 × Int64) := rL52 mtakes mmisses mbest x1 x2 x3 x4 x5 (x6 + (1 : Int32))
def f_X11_findBest_B81 (mw : Nat → Int32) (rL52 : Int32 → Int64 → Int64 → Int32 → Int32 → Int32 → Int32 → Int32 → Int32 → Option (Int32 × Int32 × Int64 × Int64)) (mtakes : Int32) (mmisses : Int64) (mbest : Int64) (x1 : Int32) (x2 : Int32) (x3 : Int32) (x4 : Int32) (x5 : Int32) (x6 : Int32) : Option (Int32 × Int32 × Int64 × Int64) := Option.bind (f_X11_go mw mtakes mmisses x1 x6) (fun q85 => if x2 < q85.1 then (f_X11_findBest_B120 mw rL52 q85.1 q85.2 mbest x1 x2 x3 x4 x5 x6) else (if 0 ≤ lg_cmp q85.2 mbest then (f_X11_findBest_B120 mw rL52 q85.1 q85.2 mbest x1 x2 x3 x4 x5 x6) else (f_X11_findBest_B120 mw rL52 q85.1 q85.2 q85.2 x1 x2 x3 x6 x5 x6)))
def f_X11_findBest_L52 (mw : Nat → Int32)  : Nat → Int32 → Int64 → Int64 → Int32 → Int32 → Int32 → Int32 → Int32 → Int32 → Option (Int32 × Int32 × Int64 × Int64)
  | 0, _, _, _, _, _, _, _, _, _ => none
  | fu + 1, mtakes, mmisses, mbest, x1, x2, x3, x4, x5, x6 => if x5 < x6 then (some (x4, mtakes, mmisses, mbest)) else (Option.bind (f_X11_isRow mw x6) (fun q62 => if q62 = 0 then (f_X11_findBest_B120 mw (f_X11_findBest_L52 mw fu) mtakes mmisses mbest x1 x2 x3 x4 x5 x6) else (if x3 = 0 then (Option.bind (f_X11_isOutright mw x6) (fun q75 => if q75 = 0 then (f_X11_findBest_B81 mw (f_X11_findBest_L52 mw fu) mtakes mmisses mbest x1 x2 x3 x4 x5 x6) else (f_X11_findBest_B120 mw (f_X11_findBest_L52 mw fu) mtakes mmisses mbest x1 x2 x3 x4 x5 x6))) else (f_X11_findBest_B81 mw (f_X11_findBest_L52 mw fu) mtakes mmisses mbest x1 x2 x3 x4 x5 x6))))
def f_X11_findBest_L16 (mw : Nat → Int32)  : Nat → Int32 → Int64 → Int64 → Int32 → Int32 → Int32 → Int32 → Int32 → Int32 → Option (Int32 × Int32 × Int64 × Int64)
  | 0, _, _, _, _, _, _, _, _, _ => none
  | fu + 1, mtakes, mmisses, mbest, x1, x2, x3, x4, x5, x6 => if (73 : Int32) < 0 ∨ 960 ≤ (73 : Int32).toNatClampNeg then none else (if mw (73 : Int32).toNatClampNeg ≤ x6 then (f_X11_findBest_L52 mw FU mtakes mmisses mbest x1 x2 x3 x4 x5 (1 : Int32)) else (if (73 : Int32) < 0 ∨ 960 ≤ (73 : Int32).toNatClampNeg then none else (f_X11_findBest_L16 mw fu mtakes mmisses mbest x1 x2 x3 x4 (((10 : Int32) * x5) + (mw (73 : Int32).toNatClampNeg)) (x6 + (1 : Int32)))))
def f_X11_findBest (mw : Nat → Int32) (mtakes : Int32) (mmisses : Int64) (mbest : Int64) (x1 : Int32) (x2 : Int32) (x3 : Int32) : Option (Int32 × Int32 × Int64 × Int64) := f_X11_findBest_L16 mw FU mtakes mmisses (10240000000000 : Int64) x1 x2 x3 (0 : Int32) (0 : Int32) (0 : Int32)
set_option maxHeartbeats 4000000 in
set_option maxRecDepth 100000 in
theorem c_X11_findBest {D : va_G} {cs : Nat → ClassId} {sa : Nat → Nat} {n : Nat} {ad : Nat → Nat} {A : Nat → Prop} (l : Launch) {en : Nat → va_E}  {mw : Nat → Int32} {mtexted : Int32} {mundo : Int32} {mabove : Int64} {mbelow : Int64} {mitems : Int32} {mat : Int32} {mfault : Int32} {mtakes : Int32} {mmisses : Int64} {mbest : Int64} {mh : Int64} {x1 : Int32} {x2 : Int32} {x3 : Int32}  {q : Int32 × Int32 × Int64 × Int64} (hn : 110 ≤ n) (e_model : en 100 = .inr (8, [.ref (ad 101), .ref (ad 102), .ref (ad 103), .ref (ad 104), .int mtexted, .int mundo, .long mabove, .long mbelow, .ref (ad 105), .ref (ad 106), .ref (ad 107), .ref (ad 108), .int mitems, .int mat, .int mfault, .int mtakes, .long mmisses, .long mbest, .ref (ad 109), .long mh])) (e_mwarr : en 101 = .inl (cs 1, 960, .inl (mw))) (h : f_X11_findBest mw mtakes mmisses mbest x1 x2 x3 = some q) : Met l yX11_findBest wsX11_findBest { frames := 3, cells := 0, slots := 0, locals := 77 } (va_Pc [.ref (ad 100), .int x1, .int x2, .int x3] (Wd D cs sa n ad A en)) (va_Qi (fun r u => q.1 = r ∧ u 100 = .inr (8, [.ref (ad 101), .ref (ad 102), .ref (ad 103), .ref (ad 104), .int mtexted, .int mundo, .long mabove, .long mbelow, .ref (ad 105), .ref (ad 106), .ref (ad 107), .ref (ad 108), .int mitems, .int mat, .int mfault, .int q.2.1, .long q.2.2.1, .long q.2.2.2, .ref (ad 109), .long mh]) ∧ (∀ j, (j < 100 ∨ 101 ≤ j) → u j = en j)) (Wd D cs sa n ad A) A) 0 0 A := by
  refine G_startI cX11_findBest 7 [(0, .ref (ad 100)), (1, .int x1), (2, .int x2), (3, .int x3)] (by decide) rfl (Nat.le_of_ble_eq_true rfl) rfl ?_
  intro p e s m args below meth c Q hC hnm Kr
  have inX11 : ∀ w ∈ u_ws RX11 TX11 20, w ∈ wsX11_findBest := by decide +kernel
  have k210 : Cond.constantLong RX11 210 (10240000000000) ∈ wsX11_findBest := by decide +kernel
  have m193 : Cond.fieldLink RX11 193 "TongueTipModel" "takes" "I" ∈ wsX11_findBest := by decide +kernel
  have m196 : Cond.fieldLink RX11 196 "TongueTipModel" "misses" "J" ∈ wsX11_findBest := by decide +kernel
  have m216 : Cond.fieldLink RX11 216 "TongueTipModel" "bestMisses" "J" ∈ wsX11_findBest := by decide +kernel
  have m7 : Cond.fieldLink RX11 7 "TongueTipModel" "w" "[I" ∈ wsX11_findBest := by decide +kernel
  have hL52 : ∀ (fu52 : Nat), ∀ (en1 : Nat → va_E) (mtakes : Int32) (mmisses : Int64) (mbest : Int64) (x1 : Int32) (x2 : Int32) (x3 : Int32) (x4 : Int32) (x5 : Int32) (x6 : Int32), en1 100 = .inr (8, [.ref (ad 101), .ref (ad 102), .ref (ad 103), .ref (ad 104), .int mtexted, .int mundo, .long mabove, .long mbelow, .ref (ad 105), .ref (ad 106), .ref (ad 107), .ref (ad 108), .int mitems, .int mat, .int mfault, .int mtakes, .long mmisses, .long mbest, .ref (ad 109), .long mh]) → en1 101 = .inl (cs 1, 960, .inl (mw)) → (∀ j, (j < 100 ∨ 101 ≤ j) → en1 j = en j) → f_X11_findBest_L52 mw fu52 mtakes mmisses mbest x1 x2 x3 x4 x5 x6 = some q → G p l e ({ frames := 3, cells := 0, slots := 0, locals := 77 } : Room) s m args below meth c D n ad A 7 0 0 Q en1 52 [(0, .ref (ad 100)), (1, .int x1), (2, .int x2), (3, .int x3), (4, .int x4), (5, .int x5), (6, .int x6)] [] := by
    intro fu52
    induction fu52 with
    | zero =>
      intro en1 mtakes mmisses mbest x1 x2 x3 x4 x5 x6 e_model e_mwarr hfr h
      rw [f_X11_findBest_L52] at h
      cases h
    | succ fu52 ih52 =>
      have hB120 : ∀ (en1 : Nat → va_E) (mtakes : Int32) (mmisses : Int64) (mbest : Int64) (x1 : Int32) (x2 : Int32) (x3 : Int32) (x4 : Int32) (x5 : Int32) (x6 : Int32), en1 100 = .inr (8, [.ref (ad 101), .ref (ad 102), .ref (ad 103), .ref (ad 104), .int mtexted, .int mundo, .long mabove, .long mbelow, .ref (ad 105), .ref (ad 106), .ref (ad 107), .ref (ad 108), .int mitems, .int mat, .int mfault, .int mtakes, .long mmisses, .long mbest, .ref (ad 109), .long mh]) → en1 101 = .inl (cs 1, 960, .inl (mw)) → (∀ j, (j < 100 ∨ 101 ≤ j) → en1 j = en j) → f_X11_findBest_B120 mw (f_X11_findBest_L52 mw fu52) mtakes mmisses mbest x1 x2 x3 x4 x5 x6 = some q → G p l e ({ frames := 3, cells := 0, slots := 0, locals := 77 } : Room) s m args below meth c D n ad A 7 0 0 Q en1 120 [(0, .ref (ad 100)), (1, .int x1), (2, .int x2), (3, .int x3), (4, .int x4), (5, .int x5), (6, .int x6)] [] := by
        intro en1 mtakes mmisses mbest x1 x2 x3 x4 x5 x6 e_model e_mwarr hfr h
        unfold f_X11_findBest_B120 at h
        refine G_iinc hC 6 6 [(6, .int (x6 + (1 : Int32))), (0, .ref (ad 100)), (1, .int x1), (2, .int x2), (3, .int x3), (4, .int x4), (5, .int x5)] rfl rfl (by decide) rfl dX11_findBest_120 ?_
        refine G_goto hC 52 dX11_findBest_123 (by decide) ?_
        refine G_lv [1, 2, 3, 4, 5, 6, 0] rfl ?_
        exact ih52 _ _ _ _ _ _ _ _ _ _ e_model e_mwarr hfr h
      have hB81 : ∀ (en1 : Nat → va_E) (mtakes : Int32) (mmisses : Int64) (mbest : Int64) (x1 : Int32) (x2 : Int32) (x3 : Int32) (x4 : Int32) (x5 : Int32) (x6 : Int32), en1 100 = .inr (8, [.ref (ad 101), .ref (ad 102), .ref (ad 103), .ref (ad 104), .int mtexted, .int mundo, .long mabove, .long mbelow, .ref (ad 105), .ref (ad 106), .ref (ad 107), .ref (ad 108), .int mitems, .int mat, .int mfault, .int mtakes, .long mmisses, .long mbest, .ref (ad 109), .long mh]) → en1 101 = .inl (cs 1, 960, .inl (mw)) → (∀ j, (j < 100 ∨ 101 ≤ j) → en1 j = en j) → f_X11_findBest_B81 mw (f_X11_findBest_L52 mw fu52) mtakes mmisses mbest x1 x2 x3 x4 x5 x6 = some q → G p l e ({ frames := 3, cells := 0, slots := 0, locals := 77 } : Room) s m args below meth c D n ad A 7 0 0 Q en1 81 [(0, .ref (ad 100)), (1, .int x1), (2, .int x2), (3, .int x3), (4, .int x4), (5, .int x5), (6, .int x6)] [] := by
        intro en1 mtakes mmisses mbest x1 x2 x3 x4 x5 x6 e_model e_mwarr hfr h
        unfold f_X11_findBest_B81 at h
        refine G_aload_n hC 0 0 rfl rfl dX11_findBest_81 ?_
        refine G_iload_n hC 1 1 rfl rfl dX11_findBest_82 ?_
        refine G_iload hC 6 6 rfl dX11_findBest_83 ?_
        obtain ⟨q85, h85, h⟩ := bnd h
        refine G_cVv (st := []) hC _ 100 (by omega) (c_X11_go  l (by omega) e_model e_mwarr h85) (cwV 2 hC.hts gX11_findBest_X11_go rfl rfl rfl (by decide +kernel) ⟨Nat.le_of_ble_eq_true rfl, Nat.le_of_ble_eq_true rfl⟩) e_model rfl rfl (Nat.le_of_ble_eq_true rfl) (Nat.zero_le _) (Nat.zero_le _) rfl dX11_findBest_85 (fun en2 hw => ?_)
        obtain ⟨e_model, fr⟩ := hw
        have e_mwarr := (fr 101 (by omega)).trans e_mwarr
        have hfr : ∀ j, (j < 100 ∨ 101 ≤ j) → en2 j = en j := fun j o0 => (fr j (by omega)).trans (hfr j o0)
        refine G_aload_n hC 0 0 rfl rfl dX11_findBest_88 ?_
        refine G_get hC inX11 100 (by omega) (v := .int q85.1) e_model rfl 15 (by decide) m193 rfl rfl dX11_findBest_89 ?_
        refine G_iload_n hC 2 2 rfl rfl dX11_findBest_92 ?_
        refine G_icmp_gt hC 120 dX11_findBest_93 (by decide) (fun c93 => ?_) (fun c93 => ?_)
        · have h := ifp c93 h
          refine G_lv [0, 1, 2, 3, 4, 5, 6] rfl ?_
          exact hB120 _ _ _ _ _ _ _ _ _ _ e_model e_mwarr hfr h
        have h := ifn c93 h
        refine G_aload_n hC 0 0 rfl rfl dX11_findBest_96 ?_
        refine G_get hC inX11 100 (by omega) (v := .long q85.2) e_model rfl 16 (by decide) m196 rfl rfl dX11_findBest_97 ?_
        refine G_aload_n hC 0 0 rfl rfl dX11_findBest_100 ?_
        refine G_get hC inX11 100 (by omega) (v := .long mbest) e_model rfl 17 (by decide) m216 rfl rfl dX11_findBest_101 ?_
        refine G_lcmp hC dX11_findBest_104 ?_
        refine G_if_ge hC 120 dX11_findBest_105 (by decide) (fun c105 => ?_) (fun c105 => ?_)
        · have h := ifp c105 h
          refine G_lv [0, 1, 2, 3, 4, 5, 6] rfl ?_
          exact hB120 _ _ _ _ _ _ _ _ _ _ e_model e_mwarr hfr h
        have h := ifn c105 h
        refine G_iload hC 6 6 rfl dX11_findBest_108 ?_
        refine G_istore hC 4 [(4, .int x6), (0, .ref (ad 100)), (1, .int x1), (2, .int x2), (3, .int x3), (5, .int x5), (6, .int x6)] (by decide) rfl dX11_findBest_110 ?_
        refine G_aload_n hC 0 1 rfl rfl dX11_findBest_112 ?_
        refine G_aload_n hC 0 1 rfl rfl dX11_findBest_113 ?_
        refine G_get hC inX11 100 (by omega) (v := .long q85.2) e_model rfl 16 (by decide) m196 rfl rfl dX11_findBest_114 ?_
        refine G_put hC inX11 tyX11 tyX11_ok nmX11 100 (by omega) e_model rfl 17 (by decide) m216 rfl rfl (ty := .long) rfl rfl rfl (Nat.le_of_ble_eq_true rfl) dX11_findBest_117 (fun en3 e_model fr => ?_)
        have e_model : en3 100 = .inr (8, [.ref (ad 101), .ref (ad 102), .ref (ad 103), .ref (ad 104), .int mtexted, .int mundo, .long mabove, .long mbelow, .ref (ad 105), .ref (ad 106), .ref (ad 107), .ref (ad 108), .int mitems, .int mat, .int mfault, .int q85.1, .long q85.2, .long q85.2, .ref (ad 109), .long mh]) := e_model
        have e_mwarr := (fr 101 (by omega)).trans e_mwarr
        have hfr : ∀ j, (j < 100 ∨ 101 ≤ j) → en3 j = en j := fun j o0 => (fr j (by omega)).trans (hfr j o0)
        refine G_lv [1, 2, 3, 4, 0, 5, 6] rfl ?_
        exact hB120 _ _ _ _ _ _ _ _ _ _ e_model e_mwarr hfr h
      intro en1 mtakes mmisses mbest x1 x2 x3 x4 x5 x6 e_model e_mwarr hfr h
      rw [f_X11_findBest_L52] at h
      refine G_iload hC 6 6 rfl dX11_findBest_52 ?_
      refine G_iload hC 5 5 rfl dX11_findBest_54 ?_
      refine G_icmp_gt hC 126 dX11_findBest_56 (by decide) (fun c56 => ?_) (fun c56 => ?_)
      · have h := ifp c56 h
        refine G_iload hC 4 4 rfl dX11_findBest_126 ?_
        have h := Option.some.inj h
        subst h
        exact Kr _ _ _ _ (nar_i _) ⟨rfl, e_model, hfr⟩ dX11_findBest_128
      have h := ifn c56 h
      refine G_aload_n hC 0 0 rfl rfl dX11_findBest_59 ?_
      refine G_iload hC 6 6 rfl dX11_findBest_60 ?_
      obtain ⟨q62, h62, h⟩ := bnd h
      refine G_cVi (st := []) hC _ 100 (by omega) (c_X11_isRow  l (by omega) e_model e_mwarr h62) (cwV 1 hC.hts gX11_findBest_X11_isRow rfl rfl rfl (by decide +kernel) ⟨Nat.le_of_ble_eq_true rfl, Nat.le_of_ble_eq_true rfl⟩) e_model rfl rfl (Nat.le_of_ble_eq_true rfl) (Nat.zero_le _) (Nat.zero_le _) rfl dX11_findBest_62 (fun r62 enx hw => ?_)
      obtain ⟨rfl, rfl⟩ := hw
      refine G_if_eq hC 120 dX11_findBest_65 (by decide) (fun c65 => ?_) (fun c65 => ?_)
      · have h := ifp c65 h
        refine G_lv [0, 1, 2, 3, 4, 5, 6] rfl ?_
        exact hB120 _ _ _ _ _ _ _ _ _ _ e_model e_mwarr hfr h
      have h := ifn c65 h
      refine G_iload_n hC 3 3 rfl rfl dX11_findBest_68 ?_
      refine G_if_ne hC 81 dX11_findBest_69 (by decide) (fun c69 => ?_) (fun c69 => ?_)
      · have h := ifn c69 h
        refine G_lv [0, 1, 2, 3, 4, 5, 6] rfl ?_
        exact hB81 _ _ _ _ _ _ _ _ _ _ e_model e_mwarr hfr h
      have h := ifp c69 h
      refine G_aload_n hC 0 0 rfl rfl dX11_findBest_72 ?_
      refine G_iload hC 6 6 rfl dX11_findBest_73 ?_
      obtain ⟨q75, h75, h⟩ := bnd h
      refine G_cVi (st := []) hC _ 100 (by omega) (c_X11_isOutright  l (by omega) e_model e_mwarr h75) (cwV 1 hC.hts gX11_findBest_X11_isOutright rfl rfl rfl (by decide +kernel) ⟨Nat.le_of_ble_eq_true rfl, Nat.le_of_ble_eq_true rfl⟩) e_model rfl rfl (Nat.le_of_ble_eq_true rfl) (Nat.zero_le _) (Nat.zero_le _) rfl dX11_findBest_75 (fun r75 enx hw => ?_)
      obtain ⟨rfl, rfl⟩ := hw
      refine G_if_ne hC 120 dX11_findBest_78 (by decide) (fun c78 => ?_) (fun c78 => ?_)
      · have h := ifn c78 h
        refine G_lv [0, 1, 2, 3, 4, 5, 6] rfl ?_
        exact hB120 _ _ _ _ _ _ _ _ _ _ e_model e_mwarr hfr h
      have h := ifp c78 h
      refine G_lv [0, 1, 2, 3, 4, 5, 6] rfl ?_
      exact hB81 _ _ _ _ _ _ _ _ _ _ e_model e_mwarr hfr h
  have hL16 : ∀ (fu16 : Nat), ∀ (en1 : Nat → va_E) (mtakes : Int32) (mmisses : Int64) (mbest : Int64) (x1 : Int32) (x2 : Int32) (x3 : Int32) (x4 : Int32) (x5 : Int32) (x6 : Int32), en1 100 = .inr (8, [.ref (ad 101), .ref (ad 102), .ref (ad 103), .ref (ad 104), .int mtexted, .int mundo, .long mabove, .long mbelow, .ref (ad 105), .ref (ad 106), .ref (ad 107), .ref (ad 108), .int mitems, .int mat, .int mfault, .int mtakes, .long mmisses, .long mbest, .ref (ad 109), .long mh]) → en1 101 = .inl (cs 1, 960, .inl (mw)) → (∀ j, (j < 100 ∨ 101 ≤ j) → en1 j = en j) → f_X11_findBest_L16 mw fu16 mtakes mmisses mbest x1 x2 x3 x4 x5 x6 = some q → G p l e ({ frames := 3, cells := 0, slots := 0, locals := 77 } : Room) s m args below meth c D n ad A 7 0 0 Q en1 16 [(0, .ref (ad 100)), (1, .int x1), (2, .int x2), (3, .int x3), (4, .int x4), (5, .int x5), (6, .int x6)] [] := by
    intro fu16
    induction fu16 with
    | zero =>
      intro en1 mtakes mmisses mbest x1 x2 x3 x4 x5 x6 e_model e_mwarr hfr h
      rw [f_X11_findBest_L16] at h
      cases h
    | succ fu16 ih16 =>
      intro en1 mtakes mmisses mbest x1 x2 x3 x4 x5 x6 e_model e_mwarr hfr h
      rw [f_X11_findBest_L16] at h
      refine G_iload hC 6 6 rfl dX11_findBest_16 ?_
      refine G_aload_n hC 0 0 rfl rfl dX11_findBest_18 ?_
      refine G_get hC inX11 100 (by omega) (v := .ref (ad 101)) e_model rfl 0 (by decide) m7 rfl rfl dX11_findBest_19 ?_
      refine G_bipush hC (v := 73) (by decide) dX11_findBest_22 ?_
      obtain ⟨g24, h⟩ := asn h
      refine G_iald hC 101 (by omega) e_mwarr g24 dX11_findBest_24 ?_
      refine G_icmp_ge hC 49 dX11_findBest_25 (by decide) (fun c25 => ?_) (fun c25 => ?_)
      · have h := ifp c25 h
        refine G_iconst hC (v := 1) (by decide) dX11_findBest_49 ?_
        refine G_istore hC 6 [(6, .int (1 : Int32)), (0, .ref (ad 100)), (1, .int x1), (2, .int x2), (3, .int x3), (4, .int x4), (5, .int x5)] (by decide) rfl dX11_findBest_50 ?_
        refine G_lv [1, 2, 3, 4, 5, 6, 0] rfl ?_
        exact hL52 FU _ _ _ _ _ _ _ _ _ _ e_model e_mwarr hfr h
      have h := ifn c25 h
      refine G_bipush hC (v := 10) (by decide) dX11_findBest_28 ?_
      refine G_iload hC 5 5 rfl dX11_findBest_30 ?_
      refine G_imul hC dX11_findBest_32 ?_
      refine G_aload_n hC 0 0 rfl rfl dX11_findBest_33 ?_
      refine G_get hC inX11 100 (by omega) (v := .ref (ad 101)) e_model rfl 0 (by decide) m7 rfl rfl dX11_findBest_34 ?_
      refine G_bipush hC (v := 73) (by decide) dX11_findBest_37 ?_
      obtain ⟨g39, h⟩ := asn h
      refine G_iald hC 101 (by omega) e_mwarr g39 dX11_findBest_39 ?_
      refine G_iadd hC dX11_findBest_40 ?_
      refine G_istore hC 5 [(5, .int (((10 : Int32) * x5) + (mw (73 : Int32).toNatClampNeg))), (0, .ref (ad 100)), (1, .int x1), (2, .int x2), (3, .int x3), (4, .int x4), (6, .int x6)] (by decide) rfl dX11_findBest_41 ?_
      refine G_iinc hC 6 6 [(6, .int (x6 + (1 : Int32))), (5, .int (((10 : Int32) * x5) + (mw (73 : Int32).toNatClampNeg))), (0, .ref (ad 100)), (1, .int x1), (2, .int x2), (3, .int x3), (4, .int x4)] rfl rfl (by decide) rfl dX11_findBest_43 ?_
      refine G_goto hC 16 dX11_findBest_46 (by decide) ?_
      refine G_lv [2, 3, 4, 5, 6, 1, 0] rfl ?_
      exact ih16 _ _ _ _ _ _ _ _ _ _ e_model e_mwarr hfr h
  unfold f_X11_findBest at h
  have hfr : ∀ j, (j < 100 ∨ 101 ≤ j) → en j = en j := fun _ _ => rfl
  refine G_iconst hC (v := 0) (by decide) dX11_findBest_0 ?_
  refine G_istore hC 4 [(4, .int (0 : Int32)), (0, .ref (ad 100)), (1, .int x1), (2, .int x2), (3, .int x3)] (by decide) rfl dX11_findBest_1 ?_
  refine G_aload_n hC 0 1 rfl rfl dX11_findBest_3 ?_
  refine G_ldc2 hC (v := (10240000000000)) k210 dX11_findBest_4 ?_
  refine G_put hC inX11 tyX11 tyX11_ok nmX11 100 (by omega) e_model rfl 17 (by decide) m216 rfl rfl (ty := .long) rfl rfl rfl (Nat.le_of_ble_eq_true rfl) dX11_findBest_7 (fun en2 e_model fr => ?_)
  have e_model : en2 100 = .inr (8, [.ref (ad 101), .ref (ad 102), .ref (ad 103), .ref (ad 104), .int mtexted, .int mundo, .long mabove, .long mbelow, .ref (ad 105), .ref (ad 106), .ref (ad 107), .ref (ad 108), .int mitems, .int mat, .int mfault, .int mtakes, .long mmisses, .long (10240000000000 : Int64), .ref (ad 109), .long mh]) := e_model
  have e_mwarr := (fr 101 (by omega)).trans e_mwarr
  have hfr : ∀ j, (j < 100 ∨ 101 ≤ j) → en2 j = en j := fun j o0 => (fr j (by omega)).trans (hfr j o0)
  refine G_iconst hC (v := 0) (by decide) dX11_findBest_10 ?_
  refine G_istore hC 5 [(5, .int (0 : Int32)), (4, .int (0 : Int32)), (0, .ref (ad 100)), (1, .int x1), (2, .int x2), (3, .int x3)] (by decide) rfl dX11_findBest_11 ?_
  refine G_iconst hC (v := 0) (by decide) dX11_findBest_13 ?_
  refine G_istore hC 6 [(6, .int (0 : Int32)), (5, .int (0 : Int32)), (4, .int (0 : Int32)), (0, .ref (ad 100)), (1, .int x1), (2, .int x2), (3, .int x3)] (by decide) rfl dX11_findBest_14 ?_
  refine G_lv [3, 4, 5, 6, 2, 1, 0] rfl ?_
  exact hL16 FU _ _ _ _ _ _ _ _ _ _ e_model e_mwarr hfr h
def f_X11_best_B20 (mw : Nat → Int32)  (mabove : Int64) (mbelow : Int64) (mrefused : Nat → Int32) (mtakes : Int32) (mmisses : Int64) (mbest : Int64) : Option (Int32 × Int64 × Int64 × (Nat → Int32) × Int32 × Int64 × Int64) := Option.bind (f_X11_told mrefused (-2 : Int32)) (fun q23 => some (q23.1, mabove, mbelow, q23.2, mtakes, mmisses, mbest))
def f_X11_best (mw : Nat → Int32) (mabove : Int64) (mbelow : Int64) (mrefused : Nat → Int32) (mtakes : Int32) (mmisses : Int64) (mbest : Int64) (x1 : Int32) (x2 : Int32) : Option (Int32 × Int64 × Int64 × (Nat → Int32) × Int32 × Int64 × Int64) := Option.bind (f_X11_isOne mw x1) (fun q2 => if q2 = 0 then (f_X11_best_B20 mw mabove mbelow mrefused mtakes mmisses mbest) else (Option.bind (f_X11_in x2.toInt64 (0 : Int64) (60 : Int64)) (fun q14 => if q14 = 0 then (f_X11_best_B20 mw mabove mbelow mrefused mtakes mmisses mbest) else (Option.bind (f_X11_findBest mw mtakes mmisses mbest x1 x2 (1 : Int32)) (fun q31 => Option.bind (f_X11_share mabove mbelow ((10240000000000 : Int64) - q31.2.2.2) (10240000000000 : Int64)) (fun q47 => some (q31.1, q47.2.1, q47.2.2, mrefused, q31.2.1, q31.2.2.1, q31.2.2.2)))))))
set_option maxHeartbeats 4000000 in
set_option maxRecDepth 100000 in
theorem c_X11_best {D : va_G} {cs : Nat → ClassId} {sa : Nat → Nat} {n : Nat} {ad : Nat → Nat} {A : Nat → Prop} (l : Launch) {en : Nat → va_E}  {mw : Nat → Int32} {mtexted : Int32} {mundo : Int32} {mabove : Int64} {mbelow : Int64} {mrefused : Nat → Int32} {mitems : Int32} {mat : Int32} {mfault : Int32} {mtakes : Int32} {mmisses : Int64} {mbest : Int64} {mh : Int64} {x1 : Int32} {x2 : Int32}  {q : Int32 × Int64 × Int64 × (Nat → Int32) × Int32 × Int64 × Int64} (hn : 110 ≤ n) (e_model : en 100 = .inr (8, [.ref (ad 101), .ref (ad 102), .ref (ad 103), .ref (ad 104), .int mtexted, .int mundo, .long mabove, .long mbelow, .ref (ad 105), .ref (ad 106), .ref (ad 107), .ref (ad 108), .int mitems, .int mat, .int mfault, .int mtakes, .long mmisses, .long mbest, .ref (ad 109), .long mh])) (e_mwarr : en 101 = .inl (cs 1, 960, .inl (mw))) (e_mrefusedarr : en 105 = .inl (cs 1, 3, .inl (mrefused))) (h : f_X11_best mw mabove mbelow mrefused mtakes mmisses mbest x1 x2 = some q) : Met l yX11_best wsX11_best { frames := 4, cells := 0, slots := 0, locals := 103 } (va_Pc [.ref (ad 100), .int x1, .int x2] (Wd D cs sa n ad A en)) (va_Qi (fun r u => q.1 = r ∧ u 100 = .inr (8, [.ref (ad 101), .ref (ad 102), .ref (ad 103), .ref (ad 104), .int mtexted, .int mundo, .long q.2.1, .long q.2.2.1, .ref (ad 105), .ref (ad 106), .ref (ad 107), .ref (ad 108), .int mitems, .int mat, .int mfault, .int q.2.2.2.2.1, .long q.2.2.2.2.2.1, .long q.2.2.2.2.2.2, .ref (ad 109), .long mh]) ∧ u 105 = .inl (cs 1, 3, .inl (q.2.2.2.1)) ∧ (∀ j, (j < 100 ∨ 101 ≤ j) → (j < 105 ∨ 106 ≤ j) → u j = en j)) (Wd D cs sa n ad A) A) 0 0 A := by
  refine G_startI cX11_best 4 [(0, .ref (ad 100)), (1, .int x1), (2, .int x2)] (by decide) rfl (Nat.le_of_ble_eq_true rfl) rfl ?_
  intro p e s m args below meth c Q hC hnm Kr
  have inX11 : ∀ w ∈ u_ws RX11 TX11 20, w ∈ wsX11_best := by decide +kernel
  have k210 : Cond.constantLong RX11 210 (10240000000000) ∈ wsX11_best := by decide +kernel
  have k71 : Cond.constantLong RX11 71 (60) ∈ wsX11_best := by decide +kernel
  have m216 : Cond.fieldLink RX11 216 "TongueTipModel" "bestMisses" "J" ∈ wsX11_best := by decide +kernel
  have hB20 : ∀ (en1 : Nat → va_E) (mabove : Int64) (mbelow : Int64) (mrefused : Nat → Int32) (mtakes : Int32) (mmisses : Int64) (mbest : Int64), en1 100 = .inr (8, [.ref (ad 101), .ref (ad 102), .ref (ad 103), .ref (ad 104), .int mtexted, .int mundo, .long mabove, .long mbelow, .ref (ad 105), .ref (ad 106), .ref (ad 107), .ref (ad 108), .int mitems, .int mat, .int mfault, .int mtakes, .long mmisses, .long mbest, .ref (ad 109), .long mh]) → en1 101 = .inl (cs 1, 960, .inl (mw)) → en1 105 = .inl (cs 1, 3, .inl (mrefused)) → (∀ j, (j < 100 ∨ 101 ≤ j) → (j < 105 ∨ 106 ≤ j) → en1 j = en j) → f_X11_best_B20 mw mabove mbelow mrefused mtakes mmisses mbest = some q → G p l e ({ frames := 4, cells := 0, slots := 0, locals := 103 } : Room) s m args below meth c D n ad A 4 0 0 Q en1 20 [(0, .ref (ad 100))] [] := by
    intro en1 mabove mbelow mrefused mtakes mmisses mbest e_model e_mwarr e_mrefusedarr hfr h
    unfold f_X11_best_B20 at h
    refine G_aload_n hC 0 0 rfl rfl dX11_best_20 ?_
    refine G_bipush hC (v := (-2)) (by decide) dX11_best_21 ?_
    obtain ⟨q23, h23, h⟩ := bnd h
    refine G_cVi (st := []) hC _ 100 (by omega) (c_X11_told  l (by omega) e_model e_mrefusedarr h23) (cwV 1 hC.hts gX11_best_X11_told rfl rfl rfl (by decide +kernel) ⟨Nat.le_of_ble_eq_true rfl, Nat.le_of_ble_eq_true rfl⟩) e_model rfl rfl (Nat.le_of_ble_eq_true rfl) (Nat.zero_le _) (Nat.zero_le _) rfl dX11_best_23 (fun r23 en2 hw => ?_)
    obtain ⟨rfl, e_mrefusedarr, fr⟩ := hw
    have e_model := (fr 100 (by omega)).trans e_model
    have e_mwarr := (fr 101 (by omega)).trans e_mwarr
    have hfr : ∀ j, (j < 100 ∨ 101 ≤ j) → (j < 105 ∨ 106 ≤ j) → en2 j = en j := fun j o0 o1 => (fr j (by omega)).trans (hfr j o0 o1)
    have h := Option.some.inj h
    subst h
    exact Kr _ _ _ _ (nar_i _) ⟨rfl, e_model, e_mrefusedarr, hfr⟩ dX11_best_26
  unfold f_X11_best at h
  have hfr : ∀ j, (j < 100 ∨ 101 ≤ j) → (j < 105 ∨ 106 ≤ j) → en j = en j := fun _ _ _ => rfl
  refine G_aload_n hC 0 0 rfl rfl dX11_best_0 ?_
  refine G_iload_n hC 1 1 rfl rfl dX11_best_1 ?_
  obtain ⟨q2, h2, h⟩ := bnd h
  refine G_cVi (st := []) hC _ 100 (by omega) (c_X11_isOne  l (by omega) e_model e_mwarr h2) (cwV 1 hC.hts gX11_best_X11_isOne rfl rfl rfl (by decide +kernel) ⟨Nat.le_of_ble_eq_true rfl, Nat.le_of_ble_eq_true rfl⟩) e_model rfl rfl (Nat.le_of_ble_eq_true rfl) (Nat.zero_le _) (Nat.zero_le _) rfl dX11_best_2 (fun r2 enx hw => ?_)
  obtain ⟨rfl, rfl⟩ := hw
  refine G_if_eq hC 20 dX11_best_5 (by decide) (fun c5 => ?_) (fun c5 => ?_)
  · have h := ifp c5 h
    refine G_lv [0] rfl ?_
    exact hB20 _ _ _ _ _ _ _ e_model e_mwarr e_mrefusedarr hfr h
  have h := ifn c5 h
  refine G_iload_n hC 2 2 rfl rfl dX11_best_8 ?_
  refine G_i2l hC dX11_best_9 ?_
  refine G_lconst hC (v := 0) (by decide) dX11_best_10 ?_
  refine G_ldc2 hC (v := (60)) k71 dX11_best_11 ?_
  obtain ⟨q14, h14, h⟩ := bnd h
  refine G_cSi (st := []) hC _ (c_X11_in  l  h14) (va_cwS 3 hC.hts gX11_best_X11_in rfl rfl rfl (by decide +kernel) ⟨Nat.le_of_ble_eq_true rfl, Nat.le_of_ble_eq_true rfl⟩) rfl (Nat.le_of_ble_eq_true rfl) (Nat.zero_le _) (Nat.zero_le _) rfl dX11_best_14 (fun r14 enx hw => ?_)
  obtain ⟨rfl, rfl⟩ := hw
  refine G_if_ne hC 27 dX11_best_17 (by decide) (fun c17 => ?_) (fun c17 => ?_)
  · have h := ifn c17 h
    refine G_aload_n hC 0 0 rfl rfl dX11_best_27 ?_
    refine G_iload_n hC 1 1 rfl rfl dX11_best_28 ?_
    refine G_iload_n hC 2 2 rfl rfl dX11_best_29 ?_
    refine G_iconst hC (v := 1) (by decide) dX11_best_30 ?_
    obtain ⟨q31, h31, h⟩ := bnd h
    refine G_cVi (st := []) hC _ 100 (by omega) (c_X11_findBest  l (by omega) e_model e_mwarr h31) (cwV 3 hC.hts gX11_best_X11_findBest rfl rfl rfl (by decide +kernel) ⟨Nat.le_of_ble_eq_true rfl, Nat.le_of_ble_eq_true rfl⟩) e_model rfl rfl (Nat.le_of_ble_eq_true rfl) (Nat.zero_le _) (Nat.zero_le _) rfl dX11_best_31 (fun r31 en2 hw => ?_)
    obtain ⟨rfl, e_model, fr⟩ := hw
    have e_mwarr := (fr 101 (by omega)).trans e_mwarr
    have e_mrefusedarr := (fr 105 (by omega)).trans e_mrefusedarr
    have hfr : ∀ j, (j < 100 ∨ 101 ≤ j) → (j < 105 ∨ 106 ≤ j) → en2 j = en j := fun j o0 o1 => (fr j (by omega)).trans (hfr j o0 o1)
    refine G_istore_n hC 3 [(3, .int q31.1), (0, .ref (ad 100)), (1, .int x1), (2, .int x2)] rfl (by decide) rfl dX11_best_34 ?_
    refine G_aload_n hC 0 1 rfl rfl dX11_best_35 ?_
    refine G_ldc2 hC (v := (10240000000000)) k210 dX11_best_36 ?_
    refine G_aload_n hC 0 1 rfl rfl dX11_best_39 ?_
    refine G_get hC inX11 100 (by omega) (v := .long q31.2.2.2) e_model rfl 17 (by decide) m216 rfl rfl dX11_best_40 ?_
    refine G_lsub hC dX11_best_43 ?_
    refine G_ldc2 hC (v := (10240000000000)) k210 dX11_best_44 ?_
    obtain ⟨q47, h47, h⟩ := bnd h
    refine G_cVi (st := []) hC _ 100 (by omega) (c_X11_share  l (by omega) e_model h47) (cwV 2 hC.hts gX11_best_X11_share rfl rfl rfl (by decide +kernel) ⟨Nat.le_of_ble_eq_true rfl, Nat.le_of_ble_eq_true rfl⟩) e_model rfl rfl (Nat.le_of_ble_eq_true rfl) (Nat.zero_le _) (Nat.zero_le _) rfl dX11_best_47 (fun r47 en3 hw => ?_)
    obtain ⟨rfl, e_model, fr⟩ := hw
    have e_mwarr := (fr 101 (by omega)).trans e_mwarr
    have e_mrefusedarr := (fr 105 (by omega)).trans e_mrefusedarr
    have hfr : ∀ j, (j < 100 ∨ 101 ≤ j) → (j < 105 ∨ 106 ≤ j) → en3 j = en j := fun j o0 o1 => (fr j (by omega)).trans (hfr j o0 o1)
    refine G_pop hC rfl dX11_best_50 ?_
    refine G_iload_n hC 3 0 rfl rfl dX11_best_51 ?_
    have h := Option.some.inj h
    subst h
    exact Kr _ _ _ _ (nar_i _) ⟨rfl, e_model, e_mrefusedarr, hfr⟩ dX11_best_52
  have h := ifp c17 h
  refine G_lv [0] rfl ?_
  exact hB20 _ _ _ _ _ _ _ e_model e_mwarr e_mrefusedarr hfr h
def f_X11_tell_B20 (mw : Nat → Int32)  (mrefused : Nat → Int32) (mtakes : Int32) (mmisses : Int64) (mbest : Int64) : Option (Int32 × (Nat → Int32) × Int32 × Int64 × Int64) := Option.bind (f_X11_told mrefused (-2 : Int32)) (fun q23 => some (q23.1, q23.2, mtakes, mmisses, mbest))
def f_X11_tell (mw : Nat → Int32) (mrefused : Nat → Int32) (mtakes : Int32) (mmisses : Int64) (mbest : Int64) (x1 : Int32) (x2 : Int32) : Option (Int32 × (Nat → Int32) × Int32 × Int64 × Int64) := Option.bind (f_X11_isOne mw x1) (fun q2 => if q2 = 0 then (f_X11_tell_B20 mw mrefused mtakes mmisses mbest) else (Option.bind (f_X11_in x2.toInt64 (0 : Int64) (60 : Int64)) (fun q14 => if q14 = 0 then (f_X11_tell_B20 mw mrefused mtakes mmisses mbest) else (Option.bind (f_X11_findBest mw mtakes mmisses mbest x1 x2 (0 : Int32)) (fun q31 => if (115 : Int32) < 0 ∨ 960 ≤ (115 : Int32).toNatClampNeg then none else (if (61 : Int32) + x1 < 0 ∨ 960 ≤ ((61 : Int32) + x1).toNatClampNeg then none else (Option.bind (f_X11_lesser (20 : Int32) (((mw (115 : Int32).toNatClampNeg) - (mw ((61 : Int32) + x1).toNatClampNeg)) / (50 : Int32))) (fun q59 => if 0 ≤ lg_cmp ((20 : Int64) * ((10240000000000 : Int64) - q31.2.2.2)) ((((20 : Int32) - q59).toInt64) * (10240000000000 : Int64)) then (some ((0 : Int32), mrefused, q31.2.1, q31.2.2.1, q31.2.2.2)) else (some ((1 : Int32), mrefused, q31.2.1, q31.2.2.1, q31.2.2.2))))))))))
set_option maxHeartbeats 4000000 in
set_option maxRecDepth 100000 in
theorem c_X11_tell {D : va_G} {cs : Nat → ClassId} {sa : Nat → Nat} {n : Nat} {ad : Nat → Nat} {A : Nat → Prop} (l : Launch) {en : Nat → va_E}  {mw : Nat → Int32} {mtexted : Int32} {mundo : Int32} {mabove : Int64} {mbelow : Int64} {mrefused : Nat → Int32} {mitems : Int32} {mat : Int32} {mfault : Int32} {mtakes : Int32} {mmisses : Int64} {mbest : Int64} {mh : Int64} {x1 : Int32} {x2 : Int32}  {q : Int32 × (Nat → Int32) × Int32 × Int64 × Int64} (hn : 110 ≤ n) (e_model : en 100 = .inr (8, [.ref (ad 101), .ref (ad 102), .ref (ad 103), .ref (ad 104), .int mtexted, .int mundo, .long mabove, .long mbelow, .ref (ad 105), .ref (ad 106), .ref (ad 107), .ref (ad 108), .int mitems, .int mat, .int mfault, .int mtakes, .long mmisses, .long mbest, .ref (ad 109), .long mh])) (e_mwarr : en 101 = .inl (cs 1, 960, .inl (mw))) (e_mrefusedarr : en 105 = .inl (cs 1, 3, .inl (mrefused))) (h : f_X11_tell mw mrefused mtakes mmisses mbest x1 x2 = some q) : Met l yX11_tell wsX11_tell { frames := 4, cells := 0, slots := 0, locals := 103 } (va_Pc [.ref (ad 100), .int x1, .int x2] (Wd D cs sa n ad A en)) (va_Qi (fun r u => q.1 = r ∧ u 100 = .inr (8, [.ref (ad 101), .ref (ad 102), .ref (ad 103), .ref (ad 104), .int mtexted, .int mundo, .long mabove, .long mbelow, .ref (ad 105), .ref (ad 106), .ref (ad 107), .ref (ad 108), .int mitems, .int mat, .int mfault, .int q.2.2.1, .long q.2.2.2.1, .long q.2.2.2.2, .ref (ad 109), .long mh]) ∧ u 105 = .inl (cs 1, 3, .inl (q.2.1)) ∧ (∀ j, (j < 100 ∨ 101 ≤ j) → (j < 105 ∨ 106 ≤ j) → u j = en j)) (Wd D cs sa n ad A) A) 0 0 A := by
  refine G_startI cX11_tell 5 [(0, .ref (ad 100)), (1, .int x1), (2, .int x2)] (by decide) rfl (Nat.le_of_ble_eq_true rfl) rfl ?_
  intro p e s m args below meth c Q hC hnm Kr
  have inX11 : ∀ w ∈ u_ws RX11 TX11 20, w ∈ wsX11_tell := by decide +kernel
  have k210 : Cond.constantLong RX11 210 (10240000000000) ∈ wsX11_tell := by decide +kernel
  have k65 : Cond.constantLong RX11 65 (20) ∈ wsX11_tell := by decide +kernel
  have k71 : Cond.constantLong RX11 71 (60) ∈ wsX11_tell := by decide +kernel
  have m216 : Cond.fieldLink RX11 216 "TongueTipModel" "bestMisses" "J" ∈ wsX11_tell := by decide +kernel
  have m7 : Cond.fieldLink RX11 7 "TongueTipModel" "w" "[I" ∈ wsX11_tell := by decide +kernel
  have hB20 : ∀ (en1 : Nat → va_E) (mrefused : Nat → Int32) (mtakes : Int32) (mmisses : Int64) (mbest : Int64), en1 100 = .inr (8, [.ref (ad 101), .ref (ad 102), .ref (ad 103), .ref (ad 104), .int mtexted, .int mundo, .long mabove, .long mbelow, .ref (ad 105), .ref (ad 106), .ref (ad 107), .ref (ad 108), .int mitems, .int mat, .int mfault, .int mtakes, .long mmisses, .long mbest, .ref (ad 109), .long mh]) → en1 101 = .inl (cs 1, 960, .inl (mw)) → en1 105 = .inl (cs 1, 3, .inl (mrefused)) → (∀ j, (j < 100 ∨ 101 ≤ j) → (j < 105 ∨ 106 ≤ j) → en1 j = en j) → f_X11_tell_B20 mw mrefused mtakes mmisses mbest = some q → G p l e ({ frames := 4, cells := 0, slots := 0, locals := 103 } : Room) s m args below meth c D n ad A 5 0 0 Q en1 20 [(0, .ref (ad 100))] [] := by
    intro en1 mrefused mtakes mmisses mbest e_model e_mwarr e_mrefusedarr hfr h
    unfold f_X11_tell_B20 at h
    refine G_aload_n hC 0 0 rfl rfl dX11_tell_20 ?_
    refine G_bipush hC (v := (-2)) (by decide) dX11_tell_21 ?_
    obtain ⟨q23, h23, h⟩ := bnd h
    refine G_cVi (st := []) hC _ 100 (by omega) (c_X11_told  l (by omega) e_model e_mrefusedarr h23) (cwV 1 hC.hts gX11_tell_X11_told rfl rfl rfl (by decide +kernel) ⟨Nat.le_of_ble_eq_true rfl, Nat.le_of_ble_eq_true rfl⟩) e_model rfl rfl (Nat.le_of_ble_eq_true rfl) (Nat.zero_le _) (Nat.zero_le _) rfl dX11_tell_23 (fun r23 en2 hw => ?_)
    obtain ⟨rfl, e_mrefusedarr, fr⟩ := hw
    have e_model := (fr 100 (by omega)).trans e_model
    have e_mwarr := (fr 101 (by omega)).trans e_mwarr
    have hfr : ∀ j, (j < 100 ∨ 101 ≤ j) → (j < 105 ∨ 106 ≤ j) → en2 j = en j := fun j o0 o1 => (fr j (by omega)).trans (hfr j o0 o1)
    have h := Option.some.inj h
    subst h
    exact Kr _ _ _ _ (nar_i _) ⟨rfl, e_model, e_mrefusedarr, hfr⟩ dX11_tell_26
  unfold f_X11_tell at h
  have hfr : ∀ j, (j < 100 ∨ 101 ≤ j) → (j < 105 ∨ 106 ≤ j) → en j = en j := fun _ _ _ => rfl
  refine G_aload_n hC 0 0 rfl rfl dX11_tell_0 ?_
  refine G_iload_n hC 1 1 rfl rfl dX11_tell_1 ?_
  obtain ⟨q2, h2, h⟩ := bnd h
  refine G_cVi (st := []) hC _ 100 (by omega) (c_X11_isOne  l (by omega) e_model e_mwarr h2) (cwV 1 hC.hts gX11_tell_X11_isOne rfl rfl rfl (by decide +kernel) ⟨Nat.le_of_ble_eq_true rfl, Nat.le_of_ble_eq_true rfl⟩) e_model rfl rfl (Nat.le_of_ble_eq_true rfl) (Nat.zero_le _) (Nat.zero_le _) rfl dX11_tell_2 (fun r2 enx hw => ?_)
  obtain ⟨rfl, rfl⟩ := hw
  refine G_if_eq hC 20 dX11_tell_5 (by decide) (fun c5 => ?_) (fun c5 => ?_)
  · have h := ifp c5 h
    refine G_lv [0] rfl ?_
    exact hB20 _ _ _ _ _ e_model e_mwarr e_mrefusedarr hfr h
  have h := ifn c5 h
  refine G_iload_n hC 2 2 rfl rfl dX11_tell_8 ?_
  refine G_i2l hC dX11_tell_9 ?_
  refine G_lconst hC (v := 0) (by decide) dX11_tell_10 ?_
  refine G_ldc2 hC (v := (60)) k71 dX11_tell_11 ?_
  obtain ⟨q14, h14, h⟩ := bnd h
  refine G_cSi (st := []) hC _ (c_X11_in  l  h14) (va_cwS 3 hC.hts gX11_tell_X11_in rfl rfl rfl (by decide +kernel) ⟨Nat.le_of_ble_eq_true rfl, Nat.le_of_ble_eq_true rfl⟩) rfl (Nat.le_of_ble_eq_true rfl) (Nat.zero_le _) (Nat.zero_le _) rfl dX11_tell_14 (fun r14 enx hw => ?_)
  obtain ⟨rfl, rfl⟩ := hw
  refine G_if_ne hC 27 dX11_tell_17 (by decide) (fun c17 => ?_) (fun c17 => ?_)
  · have h := ifn c17 h
    refine G_aload_n hC 0 0 rfl rfl dX11_tell_27 ?_
    refine G_iload_n hC 1 1 rfl rfl dX11_tell_28 ?_
    refine G_iload_n hC 2 2 rfl rfl dX11_tell_29 ?_
    refine G_iconst hC (v := 0) (by decide) dX11_tell_30 ?_
    obtain ⟨q31, h31, h⟩ := bnd h
    refine G_cVi (st := []) hC _ 100 (by omega) (c_X11_findBest  l (by omega) e_model e_mwarr h31) (cwV 3 hC.hts gX11_tell_X11_findBest rfl rfl rfl (by decide +kernel) ⟨Nat.le_of_ble_eq_true rfl, Nat.le_of_ble_eq_true rfl⟩) e_model rfl rfl (Nat.le_of_ble_eq_true rfl) (Nat.zero_le _) (Nat.zero_le _) rfl dX11_tell_31 (fun r31 en2 hw => ?_)
    obtain ⟨rfl, e_model, fr⟩ := hw
    have e_mwarr := (fr 101 (by omega)).trans e_mwarr
    have e_mrefusedarr := (fr 105 (by omega)).trans e_mrefusedarr
    have hfr : ∀ j, (j < 100 ∨ 101 ≤ j) → (j < 105 ∨ 106 ≤ j) → en2 j = en j := fun j o0 o1 => (fr j (by omega)).trans (hfr j o0 o1)
    refine G_pop hC rfl dX11_tell_34 ?_
    refine G_aload_n hC 0 0 rfl rfl dX11_tell_35 ?_
    refine G_get hC inX11 100 (by omega) (v := .ref (ad 101)) e_model rfl 0 (by decide) m7 rfl rfl dX11_tell_36 ?_
    refine G_bipush hC (v := 115) (by decide) dX11_tell_39 ?_
    obtain ⟨g41, h⟩ := asn h
    refine G_iald hC 101 (by omega) e_mwarr g41 dX11_tell_41 ?_
    refine G_aload_n hC 0 0 rfl rfl dX11_tell_42 ?_
    refine G_get hC inX11 100 (by omega) (v := .ref (ad 101)) e_model rfl 0 (by decide) m7 rfl rfl dX11_tell_43 ?_
    refine G_bipush hC (v := 61) (by decide) dX11_tell_46 ?_
    refine G_iload_n hC 1 1 rfl rfl dX11_tell_48 ?_
    refine G_iadd hC dX11_tell_49 ?_
    obtain ⟨g50, h⟩ := asn h
    refine G_iald hC 101 (by omega) e_mwarr g50 dX11_tell_50 ?_
    refine G_isub hC dX11_tell_51 ?_
    refine G_istore_n hC 3 [(3, .int ((mw (115 : Int32).toNatClampNeg) - (mw ((61 : Int32) + x1).toNatClampNeg))), (0, .ref (ad 100)), (1, .int x1), (2, .int x2)] rfl (by decide) rfl dX11_tell_52 ?_
    refine G_bipush hC (v := 20) (by decide) dX11_tell_53 ?_
    refine G_iload_n hC 3 0 rfl rfl dX11_tell_55 ?_
    refine G_bipush hC (v := 50) (by decide) dX11_tell_56 ?_
    refine G_idiv hC (by decide) dX11_tell_58 ?_
    obtain ⟨q59, h59, h⟩ := bnd h
    refine G_cSi (st := []) hC _ (c_X11_lesser  l  h59) (va_cwS 2 hC.hts gX11_tell_X11_lesser rfl rfl rfl (by decide +kernel) ⟨Nat.le_of_ble_eq_true rfl, Nat.le_of_ble_eq_true rfl⟩) rfl (Nat.le_of_ble_eq_true rfl) (Nat.zero_le _) (Nat.zero_le _) rfl dX11_tell_59 (fun r59 enx hw => ?_)
    obtain ⟨rfl, rfl⟩ := hw
    refine G_istore hC 4 [(4, .int q59), (3, .int ((mw (115 : Int32).toNatClampNeg) - (mw ((61 : Int32) + x1).toNatClampNeg))), (0, .ref (ad 100)), (1, .int x1), (2, .int x2)] (by decide) rfl dX11_tell_62 ?_
    refine G_ldc2 hC (v := (20)) k65 dX11_tell_64 ?_
    refine G_ldc2 hC (v := (10240000000000)) k210 dX11_tell_67 ?_
    refine G_aload_n hC 0 2 rfl rfl dX11_tell_70 ?_
    refine G_get hC inX11 100 (by omega) (v := .long q31.2.2.2) e_model rfl 17 (by decide) m216 rfl rfl dX11_tell_71 ?_
    refine G_lsub hC dX11_tell_74 ?_
    refine G_lmul hC dX11_tell_75 ?_
    refine G_bipush hC (v := 20) (by decide) dX11_tell_76 ?_
    refine G_iload hC 4 0 rfl dX11_tell_78 ?_
    refine G_isub hC dX11_tell_80 ?_
    refine G_i2l hC dX11_tell_81 ?_
    refine G_ldc2 hC (v := (10240000000000)) k210 dX11_tell_82 ?_
    refine G_lmul hC dX11_tell_85 ?_
    refine G_lcmp hC dX11_tell_86 ?_
    refine G_if_ge hC 94 dX11_tell_87 (by decide) (fun c87 => ?_) (fun c87 => ?_)
    · have h := ifp c87 h
      refine G_iconst hC (v := 0) (by decide) dX11_tell_94 ?_
      have h := Option.some.inj h
      subst h
      exact Kr _ _ _ _ (nar_i _) ⟨rfl, e_model, e_mrefusedarr, hfr⟩ dX11_tell_95
    have h := ifn c87 h
    refine G_iconst hC (v := 1) (by decide) dX11_tell_90 ?_
    refine G_goto hC 95 dX11_tell_91 (by decide) ?_
    have h := Option.some.inj h
    subst h
    exact Kr _ _ _ _ (nar_i _) ⟨rfl, e_model, e_mrefusedarr, hfr⟩ dX11_tell_95
  have h := ifp c17 h
  refine G_lv [0] rfl ?_
  exact hB20 _ _ _ _ _ e_model e_mwarr e_mrefusedarr hfr h
def f_X11_has_B73   (mw : Nat → Int32) (mrefused : Nat → Int32) (x1 : Int32) (x2 : Int32) : Option (Int32 × (Nat → Int32) × (Nat → Int32)) := if (110 : Int32) + x1 < 0 ∨ 960 ≤ ((110 : Int32) + x1).toNatClampNeg then none else (if (110 : Int32) + x1 < 0 ∨ 960 ≤ ((110 : Int32) + x1).toNatClampNeg then none else (some (mw ((110 : Int32) + x1).toNatClampNeg, upd mw ((110 : Int32) + x1).toNatClampNeg x2, mrefused)))
def f_X11_has_B68   (mw : Nat → Int32) (mrefused : Nat → Int32) : Option (Int32 × (Nat → Int32) × (Nat → Int32)) := Option.bind (f_X11_toldElse mrefused) (fun q69 => some (q69.1, mw, q69.2))
def f_X11_has_B36   (mw : Nat → Int32) (mrefused : Nat → Int32) (x1 : Int32) (x2 : Int32) (x3 : Int32) (s0 : Int32) : Option (Int32 × (Nat → Int32) × (Nat → Int32)) := Option.bind (f_X11_in x1.toInt64 (0 : Int64) (4 : Int64)) (fun q44 => if q44 = 0 then (f_X11_has_B68 mw mrefused) else (if x2 = (-1 : Int32) then (f_X11_has_B73 mw mrefused x1 x2) else (Option.bind (f_X11_in x2.toInt64 x3.toInt64 s0.toInt64) (fun q62 => if q62 = 0 then (f_X11_has_B68 mw mrefused) else (f_X11_has_B73 mw mrefused x1 x2)))))
def f_X11_has_B15   (mw : Nat → Int32) (mrefused : Nat → Int32) (x1 : Int32) (x2 : Int32) (s0 : Int32) : Option (Int32 × (Nat → Int32) × (Nat → Int32)) := if x1 = 0 then (f_X11_has_B36 mw mrefused x1 x2 s0 (25 : Int32)) else (if x1 = (1 : Int32) then (f_X11_has_B36 mw mrefused x1 x2 s0 (7 : Int32)) else (f_X11_has_B36 mw mrefused x1 x2 s0 (5 : Int32)))
def f_X11_has_B10   (mw : Nat → Int32) (mrefused : Nat → Int32) (x1 : Int32) (x2 : Int32) : Option (Int32 × (Nat → Int32) × (Nat → Int32)) := f_X11_has_B15 mw mrefused x1 x2 (1 : Int32)
def f_X11_has (mw : Nat → Int32) (mrefused : Nat → Int32) (x1 : Int32) (x2 : Int32) : Option (Int32 × (Nat → Int32) × (Nat → Int32)) := if x1 = (1 : Int32) then (f_X11_has_B10 mw mrefused x1 x2) else (if x1 = (2 : Int32) then (f_X11_has_B10 mw mrefused x1 x2) else (f_X11_has_B15 mw mrefused x1 x2 (0 : Int32)))
set_option maxHeartbeats 4000000 in
set_option maxRecDepth 100000 in
theorem c_X11_has {D : va_G} {cs : Nat → ClassId} {sa : Nat → Nat} {n : Nat} {ad : Nat → Nat} {A : Nat → Prop} (l : Launch) {en : Nat → va_E}  {mw : Nat → Int32} {mtexted : Int32} {mundo : Int32} {mabove : Int64} {mbelow : Int64} {mrefused : Nat → Int32} {mitems : Int32} {mat : Int32} {mfault : Int32} {mtakes : Int32} {mmisses : Int64} {mbest : Int64} {mh : Int64} {x1 : Int32} {x2 : Int32}  {q : Int32 × (Nat → Int32) × (Nat → Int32)} (hn : 110 ≤ n) (e_model : en 100 = .inr (8, [.ref (ad 101), .ref (ad 102), .ref (ad 103), .ref (ad 104), .int mtexted, .int mundo, .long mabove, .long mbelow, .ref (ad 105), .ref (ad 106), .ref (ad 107), .ref (ad 108), .int mitems, .int mat, .int mfault, .int mtakes, .long mmisses, .long mbest, .ref (ad 109), .long mh])) (e_mwarr : en 101 = .inl (cs 1, 960, .inl (mw))) (e_mrefusedarr : en 105 = .inl (cs 1, 3, .inl (mrefused))) (h : f_X11_has mw mrefused x1 x2 = some q) : Met l yX11_has wsX11_has { frames := 1, cells := 0, slots := 0, locals := 25 } (va_Pc [.ref (ad 100), .int x1, .int x2] (Wd D cs sa n ad A en)) (va_Qi (fun r u => q.1 = r ∧ u 101 = .inl (cs 1, 960, .inl (q.2.1)) ∧ u 105 = .inl (cs 1, 3, .inl (q.2.2)) ∧ (∀ j, (j < 101 ∨ 102 ≤ j) → (j < 105 ∨ 106 ≤ j) → u j = en j)) (Wd D cs sa n ad A) A) 0 0 A := by
  refine G_startI cX11_has 6 [(0, .ref (ad 100)), (1, .int x1), (2, .int x2)] (by decide) rfl (Nat.le_of_ble_eq_true rfl) rfl ?_
  intro p e s m args below meth c Q hC hnm Kr
  have inX11 : ∀ w ∈ u_ws RX11 TX11 20, w ∈ wsX11_has := by decide +kernel
  have k77 : Cond.constantLong RX11 77 (4) ∈ wsX11_has := by decide +kernel
  have m7 : Cond.fieldLink RX11 7 "TongueTipModel" "w" "[I" ∈ wsX11_has := by decide +kernel
  have hB73 : ∀ (en1 : Nat → va_E) (mw : Nat → Int32) (mrefused : Nat → Int32) (x1 : Int32) (x2 : Int32), en1 100 = .inr (8, [.ref (ad 101), .ref (ad 102), .ref (ad 103), .ref (ad 104), .int mtexted, .int mundo, .long mabove, .long mbelow, .ref (ad 105), .ref (ad 106), .ref (ad 107), .ref (ad 108), .int mitems, .int mat, .int mfault, .int mtakes, .long mmisses, .long mbest, .ref (ad 109), .long mh]) → en1 101 = .inl (cs 1, 960, .inl (mw)) → en1 105 = .inl (cs 1, 3, .inl (mrefused)) → (∀ j, (j < 101 ∨ 102 ≤ j) → (j < 105 ∨ 106 ≤ j) → en1 j = en j) → f_X11_has_B73 mw mrefused x1 x2 = some q → G p l e ({ frames := 1, cells := 0, slots := 0, locals := 25 } : Room) s m args below meth c D n ad A 6 0 0 Q en1 73 [(0, .ref (ad 100)), (1, .int x1), (2, .int x2)] [] := by
    intro en1 mw mrefused x1 x2 e_model e_mwarr e_mrefusedarr hfr h
    unfold f_X11_has_B73 at h
    refine G_aload_n hC 0 0 rfl rfl dX11_has_73 ?_
    refine G_get hC inX11 100 (by omega) (v := .ref (ad 101)) e_model rfl 0 (by decide) m7 rfl rfl dX11_has_74 ?_
    refine G_bipush hC (v := 110) (by decide) dX11_has_77 ?_
    refine G_iload_n hC 1 1 rfl rfl dX11_has_79 ?_
    refine G_iadd hC dX11_has_80 ?_
    obtain ⟨g81, h⟩ := asn h
    refine G_iald hC 101 (by omega) e_mwarr g81 dX11_has_81 ?_
    refine G_istore hC 5 [(5, .int (mw ((110 : Int32) + x1).toNatClampNeg)), (0, .ref (ad 100)), (1, .int x1), (2, .int x2)] (by decide) rfl dX11_has_82 ?_
    refine G_aload_n hC 0 1 rfl rfl dX11_has_84 ?_
    refine G_get hC inX11 100 (by omega) (v := .ref (ad 101)) e_model rfl 0 (by decide) m7 rfl rfl dX11_has_85 ?_
    refine G_bipush hC (v := 110) (by decide) dX11_has_88 ?_
    refine G_iload_n hC 1 2 rfl rfl dX11_has_90 ?_
    refine G_iadd hC dX11_has_91 ?_
    refine G_iload_n hC 2 3 rfl rfl dX11_has_92 ?_
    obtain ⟨g93, h⟩ := asn h
    refine G_iast hC 101 (by omega) e_mwarr g93 dX11_has_93 (fun en2 e_mwarr fr => ?_)
    have e_mwarr : en2 101 = .inl (cs 1, 960, .inl (upd mw ((110 : Int32) + x1).toNatClampNeg x2)) := e_mwarr
    have e_model := (fr 100 (by omega)).trans e_model
    have e_mrefusedarr := (fr 105 (by omega)).trans e_mrefusedarr
    have hfr : ∀ j, (j < 101 ∨ 102 ≤ j) → (j < 105 ∨ 106 ≤ j) → en2 j = en j := fun j o0 o1 => (fr j (by omega)).trans (hfr j o0 o1)
    refine G_iload hC 5 0 rfl dX11_has_94 ?_
    have h := Option.some.inj h
    subst h
    exact Kr _ _ _ _ (nar_i _) ⟨rfl, e_mwarr, e_mrefusedarr, hfr⟩ dX11_has_96
  have hB68 : ∀ (en1 : Nat → va_E) (mw : Nat → Int32) (mrefused : Nat → Int32), en1 100 = .inr (8, [.ref (ad 101), .ref (ad 102), .ref (ad 103), .ref (ad 104), .int mtexted, .int mundo, .long mabove, .long mbelow, .ref (ad 105), .ref (ad 106), .ref (ad 107), .ref (ad 108), .int mitems, .int mat, .int mfault, .int mtakes, .long mmisses, .long mbest, .ref (ad 109), .long mh]) → en1 101 = .inl (cs 1, 960, .inl (mw)) → en1 105 = .inl (cs 1, 3, .inl (mrefused)) → (∀ j, (j < 101 ∨ 102 ≤ j) → (j < 105 ∨ 106 ≤ j) → en1 j = en j) → f_X11_has_B68 mw mrefused = some q → G p l e ({ frames := 1, cells := 0, slots := 0, locals := 25 } : Room) s m args below meth c D n ad A 6 0 0 Q en1 68 [(0, .ref (ad 100))] [] := by
    intro en1 mw mrefused e_model e_mwarr e_mrefusedarr hfr h
    unfold f_X11_has_B68 at h
    refine G_aload_n hC 0 0 rfl rfl dX11_has_68 ?_
    obtain ⟨q69, h69, h⟩ := bnd h
    refine G_cVi (st := []) hC _ 100 (by omega) (c_X11_toldElse  l (by omega) e_model e_mrefusedarr h69) (cwV 0 hC.hts gX11_has_X11_toldElse rfl rfl rfl (by decide +kernel) ⟨Nat.le_of_ble_eq_true rfl, Nat.le_of_ble_eq_true rfl⟩) e_model rfl rfl (Nat.le_of_ble_eq_true rfl) (Nat.zero_le _) (Nat.zero_le _) rfl dX11_has_69 (fun r69 en2 hw => ?_)
    obtain ⟨rfl, e_mrefusedarr, fr⟩ := hw
    have e_model := (fr 100 (by omega)).trans e_model
    have e_mwarr := (fr 101 (by omega)).trans e_mwarr
    have hfr : ∀ j, (j < 101 ∨ 102 ≤ j) → (j < 105 ∨ 106 ≤ j) → en2 j = en j := fun j o0 o1 => (fr j (by omega)).trans (hfr j o0 o1)
    have h := Option.some.inj h
    subst h
    exact Kr _ _ _ _ (nar_i _) ⟨rfl, e_mwarr, e_mrefusedarr, hfr⟩ dX11_has_72
  have hB36 : ∀ (en1 : Nat → va_E) (mw : Nat → Int32) (mrefused : Nat → Int32) (x1 : Int32) (x2 : Int32) (x3 : Int32) (s0 : Int32), en1 100 = .inr (8, [.ref (ad 101), .ref (ad 102), .ref (ad 103), .ref (ad 104), .int mtexted, .int mundo, .long mabove, .long mbelow, .ref (ad 105), .ref (ad 106), .ref (ad 107), .ref (ad 108), .int mitems, .int mat, .int mfault, .int mtakes, .long mmisses, .long mbest, .ref (ad 109), .long mh]) → en1 101 = .inl (cs 1, 960, .inl (mw)) → en1 105 = .inl (cs 1, 3, .inl (mrefused)) → (∀ j, (j < 101 ∨ 102 ≤ j) → (j < 105 ∨ 106 ≤ j) → en1 j = en j) → f_X11_has_B36 mw mrefused x1 x2 x3 s0 = some q → G p l e ({ frames := 1, cells := 0, slots := 0, locals := 25 } : Room) s m args below meth c D n ad A 6 0 0 Q en1 36 [(0, .ref (ad 100)), (1, .int x1), (2, .int x2), (3, .int x3)] [.int s0] := by
    intro en1 mw mrefused x1 x2 x3 s0 e_model e_mwarr e_mrefusedarr hfr h
    unfold f_X11_has_B36 at h
    refine G_istore hC 4 [(4, .int s0), (0, .ref (ad 100)), (1, .int x1), (2, .int x2), (3, .int x3)] (by decide) rfl dX11_has_36 ?_
    refine G_iload_n hC 1 2 rfl rfl dX11_has_38 ?_
    refine G_i2l hC dX11_has_39 ?_
    refine G_lconst hC (v := 0) (by decide) dX11_has_40 ?_
    refine G_ldc2 hC (v := (4)) k77 dX11_has_41 ?_
    obtain ⟨q44, h44, h⟩ := bnd h
    refine G_cSi (st := []) hC _ (c_X11_in  l  h44) (va_cwS 3 hC.hts gX11_has_X11_in rfl rfl rfl (by decide +kernel) ⟨Nat.le_of_ble_eq_true rfl, Nat.le_of_ble_eq_true rfl⟩) rfl (Nat.le_of_ble_eq_true rfl) (Nat.zero_le _) (Nat.zero_le _) rfl dX11_has_44 (fun r44 enx hw => ?_)
    obtain ⟨rfl, rfl⟩ := hw
    refine G_if_eq hC 68 dX11_has_47 (by decide) (fun c47 => ?_) (fun c47 => ?_)
    · have h := ifp c47 h
      refine G_lv [1] rfl ?_
      exact hB68 _ _ _ e_model e_mwarr e_mrefusedarr hfr h
    have h := ifn c47 h
    refine G_iload_n hC 2 3 rfl rfl dX11_has_50 ?_
    refine G_iconst hC (v := (-1)) (by decide) dX11_has_51 ?_
    refine G_icmp_eq hC 73 dX11_has_52 (by decide) (fun c52 => ?_) (fun c52 => ?_)
    · have h := ifp c52 h
      refine G_lv [1, 2, 3] rfl ?_
      exact hB73 _ _ _ _ _ e_model e_mwarr e_mrefusedarr hfr h
    have h := ifn c52 h
    refine G_iload_n hC 2 3 rfl rfl dX11_has_55 ?_
    refine G_i2l hC dX11_has_56 ?_
    refine G_iload_n hC 3 4 rfl rfl dX11_has_57 ?_
    refine G_i2l hC dX11_has_58 ?_
    refine G_iload hC 4 0 rfl dX11_has_59 ?_
    refine G_i2l hC dX11_has_61 ?_
    obtain ⟨q62, h62, h⟩ := bnd h
    refine G_cSi (st := []) hC _ (c_X11_in  l  h62) (va_cwS 3 hC.hts gX11_has_X11_in rfl rfl rfl (by decide +kernel) ⟨Nat.le_of_ble_eq_true rfl, Nat.le_of_ble_eq_true rfl⟩) rfl (Nat.le_of_ble_eq_true rfl) (Nat.zero_le _) (Nat.zero_le _) rfl dX11_has_62 (fun r62 enx hw => ?_)
    obtain ⟨rfl, rfl⟩ := hw
    refine G_if_ne hC 73 dX11_has_65 (by decide) (fun c65 => ?_) (fun c65 => ?_)
    · have h := ifn c65 h
      refine G_lv [1, 2, 3] rfl ?_
      exact hB73 _ _ _ _ _ e_model e_mwarr e_mrefusedarr hfr h
    have h := ifp c65 h
    refine G_lv [1] rfl ?_
    exact hB68 _ _ _ e_model e_mwarr e_mrefusedarr hfr h
  have hB15 : ∀ (en1 : Nat → va_E) (mw : Nat → Int32) (mrefused : Nat → Int32) (x1 : Int32) (x2 : Int32) (s0 : Int32), en1 100 = .inr (8, [.ref (ad 101), .ref (ad 102), .ref (ad 103), .ref (ad 104), .int mtexted, .int mundo, .long mabove, .long mbelow, .ref (ad 105), .ref (ad 106), .ref (ad 107), .ref (ad 108), .int mitems, .int mat, .int mfault, .int mtakes, .long mmisses, .long mbest, .ref (ad 109), .long mh]) → en1 101 = .inl (cs 1, 960, .inl (mw)) → en1 105 = .inl (cs 1, 3, .inl (mrefused)) → (∀ j, (j < 101 ∨ 102 ≤ j) → (j < 105 ∨ 106 ≤ j) → en1 j = en j) → f_X11_has_B15 mw mrefused x1 x2 s0 = some q → G p l e ({ frames := 1, cells := 0, slots := 0, locals := 25 } : Room) s m args below meth c D n ad A 6 0 0 Q en1 15 [(0, .ref (ad 100)), (1, .int x1), (2, .int x2)] [.int s0] := by
    intro en1 mw mrefused x1 x2 s0 e_model e_mwarr e_mrefusedarr hfr h
    unfold f_X11_has_B15 at h
    refine G_istore_n hC 3 [(3, .int s0), (0, .ref (ad 100)), (1, .int x1), (2, .int x2)] rfl (by decide) rfl dX11_has_15 ?_
    refine G_iload_n hC 1 2 rfl rfl dX11_has_16 ?_
    refine G_if_ne hC 25 dX11_has_17 (by decide) (fun c17 => ?_) (fun c17 => ?_)
    · have h := ifn c17 h
      refine G_iload_n hC 1 2 rfl rfl dX11_has_25 ?_
      refine G_iconst hC (v := 1) (by decide) dX11_has_26 ?_
      refine G_icmp_ne hC 35 dX11_has_27 (by decide) (fun c27 => ?_) (fun c27 => ?_)
      · have h := ifn c27 h
        refine G_iconst hC (v := 5) (by decide) dX11_has_35 ?_
        refine G_lv [1, 2, 3, 0] rfl ?_
        exact hB36 _ _ _ _ _ _ _ e_model e_mwarr e_mrefusedarr hfr h
      have h := ifp c27 h
      refine G_bipush hC (v := 7) (by decide) dX11_has_30 ?_
      refine G_goto hC 36 dX11_has_32 (by decide) ?_
      refine G_lv [1, 2, 3, 0] rfl ?_
      exact hB36 _ _ _ _ _ _ _ e_model e_mwarr e_mrefusedarr hfr h
    have h := ifp c17 h
    refine G_bipush hC (v := 25) (by decide) dX11_has_20 ?_
    refine G_goto hC 36 dX11_has_22 (by decide) ?_
    refine G_lv [1, 2, 3, 0] rfl ?_
    exact hB36 _ _ _ _ _ _ _ e_model e_mwarr e_mrefusedarr hfr h
  have hB10 : ∀ (en1 : Nat → va_E) (mw : Nat → Int32) (mrefused : Nat → Int32) (x1 : Int32) (x2 : Int32), en1 100 = .inr (8, [.ref (ad 101), .ref (ad 102), .ref (ad 103), .ref (ad 104), .int mtexted, .int mundo, .long mabove, .long mbelow, .ref (ad 105), .ref (ad 106), .ref (ad 107), .ref (ad 108), .int mitems, .int mat, .int mfault, .int mtakes, .long mmisses, .long mbest, .ref (ad 109), .long mh]) → en1 101 = .inl (cs 1, 960, .inl (mw)) → en1 105 = .inl (cs 1, 3, .inl (mrefused)) → (∀ j, (j < 101 ∨ 102 ≤ j) → (j < 105 ∨ 106 ≤ j) → en1 j = en j) → f_X11_has_B10 mw mrefused x1 x2 = some q → G p l e ({ frames := 1, cells := 0, slots := 0, locals := 25 } : Room) s m args below meth c D n ad A 6 0 0 Q en1 10 [(0, .ref (ad 100)), (1, .int x1), (2, .int x2)] [] := by
    intro en1 mw mrefused x1 x2 e_model e_mwarr e_mrefusedarr hfr h
    unfold f_X11_has_B10 at h
    refine G_iconst hC (v := 1) (by decide) dX11_has_10 ?_
    refine G_goto hC 15 dX11_has_11 (by decide) ?_
    refine G_lv [0, 1, 2] rfl ?_
    exact hB15 _ _ _ _ _ _ e_model e_mwarr e_mrefusedarr hfr h
  unfold f_X11_has at h
  have hfr : ∀ j, (j < 101 ∨ 102 ≤ j) → (j < 105 ∨ 106 ≤ j) → en j = en j := fun _ _ _ => rfl
  refine G_iload_n hC 1 1 rfl rfl dX11_has_0 ?_
  refine G_iconst hC (v := 1) (by decide) dX11_has_1 ?_
  refine G_icmp_eq hC 10 dX11_has_2 (by decide) (fun c2 => ?_) (fun c2 => ?_)
  · have h := ifp c2 h
    refine G_lv [0, 1, 2] rfl ?_
    exact hB10 _ _ _ _ _ e_model e_mwarr e_mrefusedarr hfr h
  have h := ifn c2 h
  refine G_iload_n hC 1 1 rfl rfl dX11_has_5 ?_
  refine G_iconst hC (v := 2) (by decide) dX11_has_6 ?_
  refine G_icmp_ne hC 14 dX11_has_7 (by decide) (fun c7 => ?_) (fun c7 => ?_)
  · have h := ifn c7 h
    refine G_iconst hC (v := 0) (by decide) dX11_has_14 ?_
    refine G_lv [0, 1, 2] rfl ?_
    exact hB15 _ _ _ _ _ _ e_model e_mwarr e_mrefusedarr hfr h
  have h := ifp c7 h
  refine G_lv [0, 1, 2] rfl ?_
  exact hB10 _ _ _ _ _ e_model e_mwarr e_mrefusedarr hfr h
def f_X11_partOf (mw : Nat → Int32) (mnames : Nat → Int64) (x1 : Int32) (x2 : Int32) : Option (Int32) := if x2 = (0 : Int32) then (if x1 < 0 ∨ 96 ≤ x1.toNatClampNeg then none else (Option.bind (f_X11_letterOf (mnames x1.toNatClampNeg) (0 : Int32)) (fun q39 => some (q39 - (1 : Int32))))) else if x2 = (1 : Int32) then (if x1 < 0 ∨ 96 ≤ x1.toNatClampNeg then none else (Option.bind (f_X11_lettersOf (mnames x1.toNatClampNeg)) (fun q51 => some q51))) else if x2 = (2 : Int32) then (if (1 : Int32) + x1 < 0 ∨ 960 ≤ ((1 : Int32) + x1).toNatClampNeg then none else (some (mw ((1 : Int32) + x1).toNatClampNeg))) else if x2 = (3 : Int32) then (if (13 : Int32) + x1 < 0 ∨ 960 ≤ ((13 : Int32) + x1).toNatClampNeg then none else (some (mw ((13 : Int32) + x1).toNatClampNeg))) else (if (25 : Int32) + x1 < 0 ∨ 960 ≤ ((25 : Int32) + x1).toNatClampNeg then none else (some (mw ((25 : Int32) + x1).toNatClampNeg)))
set_option maxHeartbeats 4000000 in
set_option maxRecDepth 100000 in
theorem c_X11_partOf {D : va_G} {cs : Nat → ClassId} {sa : Nat → Nat} {n : Nat} {ad : Nat → Nat} {A : Nat → Prop} (l : Launch) {en : Nat → va_E}  {mw : Nat → Int32} {mnames : Nat → Int64} {mtexted : Int32} {mundo : Int32} {mabove : Int64} {mbelow : Int64} {mitems : Int32} {mat : Int32} {mfault : Int32} {mtakes : Int32} {mmisses : Int64} {mbest : Int64} {mh : Int64} {x1 : Int32} {x2 : Int32}  {q : Int32} (hn : 110 ≤ n) (e_model : en 100 = .inr (8, [.ref (ad 101), .ref (ad 102), .ref (ad 103), .ref (ad 104), .int mtexted, .int mundo, .long mabove, .long mbelow, .ref (ad 105), .ref (ad 106), .ref (ad 107), .ref (ad 108), .int mitems, .int mat, .int mfault, .int mtakes, .long mmisses, .long mbest, .ref (ad 109), .long mh])) (e_mwarr : en 101 = .inl (cs 1, 960, .inl (mw))) (e_mnamesarr : en 102 = .inl (cs 2, 96, .inr (.inl (mnames)))) (h : f_X11_partOf mw mnames x1 x2 = some q) : Met l yX11_partOf wsX11_partOf { frames := 2, cells := 0, slots := 0, locals := 49 } (va_Pc [.ref (ad 100), .int x1, .int x2] (Wd D cs sa n ad A en)) (va_Qi (fun r u => q = r ∧ en = u) (Wd D cs sa n ad A) A) 0 0 A := by
  refine G_startI cX11_partOf 3 [(0, .ref (ad 100)), (1, .int x1), (2, .int x2)] (by decide) rfl (Nat.le_of_ble_eq_true rfl) rfl ?_
  intro p e s m args below meth c Q hC hnm Kr
  have inX11 : ∀ w ∈ u_ws RX11 TX11 20, w ∈ wsX11_partOf := by decide +kernel
  have m13 : Cond.fieldLink RX11 13 "TongueTipModel" "names" "[J" ∈ wsX11_partOf := by decide +kernel
  have m7 : Cond.fieldLink RX11 7 "TongueTipModel" "w" "[I" ∈ wsX11_partOf := by decide +kernel
  unfold f_X11_partOf at h
  refine G_iload_n hC 2 2 rfl rfl dX11_partOf_0 ?_
  by_cases c1_0 : x2 = (0 : Int32)
  · have h := ifp c1_0 h
    refine G_tabIn hC 32 dX11_partOf_1 (by rw [c1_0]; decide) (by rw [c1_0]; decide) (off := 31) (by rw [c1_0]; decide) (by decide) ?_
    refine G_aload_n hC 0 0 rfl rfl dX11_partOf_32 ?_
    refine G_get hC inX11 100 (by omega) (v := .ref (ad 102)) e_model rfl 1 (by decide) m13 rfl rfl dX11_partOf_33 ?_
    refine G_iload_n hC 1 1 rfl rfl dX11_partOf_36 ?_
    obtain ⟨g37, h⟩ := asn h
    refine G_lald hC 102 (by omega) e_mnamesarr g37 dX11_partOf_37 ?_
    refine G_iconst hC (v := 0) (by decide) dX11_partOf_38 ?_
    obtain ⟨q39, h39, h⟩ := bnd h
    refine G_cSi (st := []) hC _ (c_X11_letterOf  l  h39) (va_cwS 2 hC.hts gX11_partOf_X11_letterOf rfl rfl rfl (by decide +kernel) ⟨Nat.le_of_ble_eq_true rfl, Nat.le_of_ble_eq_true rfl⟩) rfl (Nat.le_of_ble_eq_true rfl) (Nat.zero_le _) (Nat.zero_le _) rfl dX11_partOf_39 (fun r39 enx hw => ?_)
    obtain ⟨rfl, rfl⟩ := hw
    refine G_iconst hC (v := 1) (by decide) dX11_partOf_42 ?_
    refine G_isub hC dX11_partOf_43 ?_
    have h := Option.some.inj h
    subst h
    exact Kr _ _ _ _ (nar_i _) ⟨rfl, rfl⟩ dX11_partOf_44
  have h := ifn c1_0 h
  by_cases c1_1 : x2 = (1 : Int32)
  · have h := ifp c1_1 h
    refine G_tabIn hC 45 dX11_partOf_1 (by rw [c1_1]; decide) (by rw [c1_1]; decide) (off := 44) (by rw [c1_1]; decide) (by decide) ?_
    refine G_aload_n hC 0 0 rfl rfl dX11_partOf_45 ?_
    refine G_get hC inX11 100 (by omega) (v := .ref (ad 102)) e_model rfl 1 (by decide) m13 rfl rfl dX11_partOf_46 ?_
    refine G_iload_n hC 1 1 rfl rfl dX11_partOf_49 ?_
    obtain ⟨g50, h⟩ := asn h
    refine G_lald hC 102 (by omega) e_mnamesarr g50 dX11_partOf_50 ?_
    obtain ⟨q51, h51, h⟩ := bnd h
    refine G_cSi (st := []) hC _ (c_X11_lettersOf  l  h51) (va_cwS 1 hC.hts gX11_partOf_X11_lettersOf rfl rfl rfl (by decide +kernel) ⟨Nat.le_of_ble_eq_true rfl, Nat.le_of_ble_eq_true rfl⟩) rfl (Nat.le_of_ble_eq_true rfl) (Nat.zero_le _) (Nat.zero_le _) rfl dX11_partOf_51 (fun r51 enx hw => ?_)
    obtain ⟨rfl, rfl⟩ := hw
    have h := Option.some.inj h
    subst h
    exact Kr _ _ _ _ (nar_i _) ⟨rfl, rfl⟩ dX11_partOf_54
  have h := ifn c1_1 h
  by_cases c1_2 : x2 = (2 : Int32)
  · have h := ifp c1_2 h
    refine G_tabIn hC 55 dX11_partOf_1 (by rw [c1_2]; decide) (by rw [c1_2]; decide) (off := 54) (by rw [c1_2]; decide) (by decide) ?_
    refine G_aload_n hC 0 0 rfl rfl dX11_partOf_55 ?_
    refine G_get hC inX11 100 (by omega) (v := .ref (ad 101)) e_model rfl 0 (by decide) m7 rfl rfl dX11_partOf_56 ?_
    refine G_iconst hC (v := 1) (by decide) dX11_partOf_59 ?_
    refine G_iload_n hC 1 1 rfl rfl dX11_partOf_60 ?_
    refine G_iadd hC dX11_partOf_61 ?_
    obtain ⟨g62, h⟩ := asn h
    refine G_iald hC 101 (by omega) e_mwarr g62 dX11_partOf_62 ?_
    have h := Option.some.inj h
    subst h
    exact Kr _ _ _ _ (nar_i _) ⟨rfl, rfl⟩ dX11_partOf_63
  have h := ifn c1_2 h
  by_cases c1_3 : x2 = (3 : Int32)
  · have h := ifp c1_3 h
    refine G_tabIn hC 64 dX11_partOf_1 (by rw [c1_3]; decide) (by rw [c1_3]; decide) (off := 63) (by rw [c1_3]; decide) (by decide) ?_
    refine G_aload_n hC 0 0 rfl rfl dX11_partOf_64 ?_
    refine G_get hC inX11 100 (by omega) (v := .ref (ad 101)) e_model rfl 0 (by decide) m7 rfl rfl dX11_partOf_65 ?_
    refine G_bipush hC (v := 13) (by decide) dX11_partOf_68 ?_
    refine G_iload_n hC 1 1 rfl rfl dX11_partOf_70 ?_
    refine G_iadd hC dX11_partOf_71 ?_
    obtain ⟨g72, h⟩ := asn h
    refine G_iald hC 101 (by omega) e_mwarr g72 dX11_partOf_72 ?_
    have h := Option.some.inj h
    subst h
    exact Kr _ _ _ _ (nar_i _) ⟨rfl, rfl⟩ dX11_partOf_73
  have h := ifn c1_3 h
  refine G_tabOut hC 74 dX11_partOf_1 (sw_out 0 3 (by decide) (fun i h0 h1 => by
    rcases (show i = 0 ∨ i = 1 ∨ i = 2 ∨ i = 3 by omega) with rfl | rfl | rfl | rfl
    · exact c1_0
    · exact c1_1
    · exact c1_2
    · exact c1_3)) (by decide) ?_
  refine G_aload_n hC 0 0 rfl rfl dX11_partOf_74 ?_
  refine G_get hC inX11 100 (by omega) (v := .ref (ad 101)) e_model rfl 0 (by decide) m7 rfl rfl dX11_partOf_75 ?_
  refine G_bipush hC (v := 25) (by decide) dX11_partOf_78 ?_
  refine G_iload_n hC 1 1 rfl rfl dX11_partOf_80 ?_
  refine G_iadd hC dX11_partOf_81 ?_
  obtain ⟨g82, h⟩ := asn h
  refine G_iald hC 101 (by omega) e_mwarr g82 dX11_partOf_82 ?_
  have h := Option.some.inj h
  subst h
  exact Kr _ _ _ _ (nar_i _) ⟨rfl, rfl⟩ dX11_partOf_83
def f_X11_findWhose_B87 (mw : Nat → Int32) (mnames : Nat → Int64) (rL4 : Int32 → Int32 → Option (Int32)) (x2 : Int32) (s0 : Int32) (s1 : Int32) : Option (Int32) := rL4 (s0 ||| s1) (x2 + (1 : Int32))
def f_X11_findWhose_B68 (mw : Nat → Int32) (mnames : Nat → Int64) (rL4 : Int32 → Int32 → Option (Int32)) (rL19 : Int32 → Int32 → Int32 → Int32 → Option (Int32)) (x1 : Int32) (x2 : Int32) (x4 : Int32) (s0 : Int32) : Option (Int32) := rL19 x1 x2 s0 (x4 + (1 : Int32))
def f_X11_findWhose_B67 (mw : Nat → Int32) (mnames : Nat → Int64) (rL4 : Int32 → Int32 → Option (Int32)) (rL19 : Int32 → Int32 → Int32 → Int32 → Option (Int32)) (x1 : Int32) (x2 : Int32) (x4 : Int32) : Option (Int32) := f_X11_findWhose_B68 mw mnames rL4 rL19 x1 x2 x4 (0 : Int32)
def f_X11_findWhose_B63 (mw : Nat → Int32) (mnames : Nat → Int64) (rL4 : Int32 → Int32 → Option (Int32)) (rL19 : Int32 → Int32 → Int32 → Int32 → Option (Int32)) (x1 : Int32) (x2 : Int32) (x4 : Int32) : Option (Int32) := f_X11_findWhose_B68 mw mnames rL4 rL19 x1 x2 x4 (1 : Int32)
def f_X11_findWhose_L19 (mw : Nat → Int32) (mnames : Nat → Int64) (rL4 : Int32 → Int32 → Option (Int32)) : Nat → Int32 → Int32 → Int32 → Int32 → Option (Int32)
  | 0, _, _, _, _ => none
  | fu + 1, x1, x2, x3, x4 => if (5 : Int32) ≤ x4 then (if x3 = 0 then (f_X11_findWhose_B87 mw mnames rL4 x2 x1 (0 : Int32)) else (f_X11_findWhose_B87 mw mnames rL4 x2 x1 ((1 : Int32) <<< (x2 &&& (31 : Int32))))) else (if x3 = 0 then (f_X11_findWhose_B67 mw mnames rL4 (f_X11_findWhose_L19 mw mnames rL4 fu) x1 x2 x4) else (if (110 : Int32) + x4 < 0 ∨ 960 ≤ ((110 : Int32) + x4).toNatClampNeg then none else (if mw ((110 : Int32) + x4).toNatClampNeg = (-1 : Int32) then (f_X11_findWhose_B63 mw mnames rL4 (f_X11_findWhose_L19 mw mnames rL4 fu) x1 x2 x4) else (if (110 : Int32) + x4 < 0 ∨ 960 ≤ ((110 : Int32) + x4).toNatClampNeg then none else (Option.bind (f_X11_partOf mw mnames x2 x4) (fun q57 => if mw ((110 : Int32) + x4).toNatClampNeg = q57 then (f_X11_findWhose_B63 mw mnames rL4 (f_X11_findWhose_L19 mw mnames rL4 fu) x1 x2 x4) else (f_X11_findWhose_B67 mw mnames rL4 (f_X11_findWhose_L19 mw mnames rL4 fu) x1 x2 x4)))))))
def f_X11_findWhose_L4 (mw : Nat → Int32) (mnames : Nat → Int64)  : Nat → Int32 → Int32 → Option (Int32)
  | 0, _, _ => none
  | fu + 1, x1, x2 => if (0 : Int32) < 0 ∨ 960 ≤ (0 : Int32).toNatClampNeg then none else (if mw (0 : Int32).toNatClampNeg ≤ x2 then (some x1) else (f_X11_findWhose_L19 mw mnames (f_X11_findWhose_L4 mw mnames fu) FU x1 x2 (1 : Int32) (0 : Int32)))
def f_X11_findWhose (mw : Nat → Int32) (mnames : Nat → Int64)  : Option (Int32) := f_X11_findWhose_L4 mw mnames FU (0 : Int32) (0 : Int32)
set_option maxHeartbeats 4000000 in
set_option maxRecDepth 100000 in
theorem c_X11_findWhose {D : va_G} {cs : Nat → ClassId} {sa : Nat → Nat} {n : Nat} {ad : Nat → Nat} {A : Nat → Prop} (l : Launch) {en : Nat → va_E}  {mw : Nat → Int32} {mnames : Nat → Int64} {mtexted : Int32} {mundo : Int32} {mabove : Int64} {mbelow : Int64} {mitems : Int32} {mat : Int32} {mfault : Int32} {mtakes : Int32} {mmisses : Int64} {mbest : Int64} {mh : Int64}   {q : Int32} (hn : 110 ≤ n) (e_model : en 100 = .inr (8, [.ref (ad 101), .ref (ad 102), .ref (ad 103), .ref (ad 104), .int mtexted, .int mundo, .long mabove, .long mbelow, .ref (ad 105), .ref (ad 106), .ref (ad 107), .ref (ad 108), .int mitems, .int mat, .int mfault, .int mtakes, .long mmisses, .long mbest, .ref (ad 109), .long mh])) (e_mwarr : en 101 = .inl (cs 1, 960, .inl (mw))) (e_mnamesarr : en 102 = .inl (cs 2, 96, .inr (.inl (mnames)))) (h : f_X11_findWhose mw mnames = some q) : Met l yX11_findWhose wsX11_findWhose { frames := 3, cells := 0, slots := 0, locals := 71 } (va_Pc [.ref (ad 100)] (Wd D cs sa n ad A en)) (va_Qi (fun r u => q = r ∧ en = u) (Wd D cs sa n ad A) A) 0 0 A := by
  refine G_startI cX11_findWhose 5 [(0, .ref (ad 100))] (by decide) rfl (Nat.le_of_ble_eq_true rfl) rfl ?_
  intro p e s m args below meth c Q hC hnm Kr
  have inX11 : ∀ w ∈ u_ws RX11 TX11 20, w ∈ wsX11_findWhose := by decide +kernel
  have m7 : Cond.fieldLink RX11 7 "TongueTipModel" "w" "[I" ∈ wsX11_findWhose := by decide +kernel
  have hL4 : ∀ (fu4 : Nat), ∀ (x1 : Int32) (x2 : Int32), f_X11_findWhose_L4 mw mnames fu4 x1 x2 = some q → G p l e ({ frames := 3, cells := 0, slots := 0, locals := 71 } : Room) s m args below meth c D n ad A 5 0 0 Q en 4 [(0, .ref (ad 100)), (1, .int x1), (2, .int x2)] [] := by
    intro fu4
    induction fu4 with
    | zero =>
      intro x1 x2 h
      rw [f_X11_findWhose_L4] at h
      cases h
    | succ fu4 ih4 =>
      have hB87 : ∀ (x2 : Int32) (s0 : Int32) (s1 : Int32), f_X11_findWhose_B87 mw mnames (f_X11_findWhose_L4 mw mnames fu4) x2 s0 s1 = some q → G p l e ({ frames := 3, cells := 0, slots := 0, locals := 71 } : Room) s m args below meth c D n ad A 5 0 0 Q en 87 [(0, .ref (ad 100)), (2, .int x2)] [.int s1, .int s0] := by
        intro x2 s0 s1 h
        unfold f_X11_findWhose_B87 at h
        refine G_ior hC dX11_findWhose_87 ?_
        refine G_istore_n hC 1 [(1, .int (s0 ||| s1)), (0, .ref (ad 100)), (2, .int x2)] rfl (by decide) rfl dX11_findWhose_88 ?_
        refine G_iinc hC 2 2 [(2, .int (x2 + (1 : Int32))), (1, .int (s0 ||| s1)), (0, .ref (ad 100))] rfl rfl (by decide) rfl dX11_findWhose_89 ?_
        refine G_goto hC 4 dX11_findWhose_92 (by decide) ?_
        refine G_lv [2, 1, 0] rfl ?_
        exact ih4 _ _ h
      have hL19 : ∀ (fu19 : Nat), ∀ (x1 : Int32) (x2 : Int32) (x3 : Int32) (x4 : Int32), f_X11_findWhose_L19 mw mnames (f_X11_findWhose_L4 mw mnames fu4) fu19 x1 x2 x3 x4 = some q → G p l e ({ frames := 3, cells := 0, slots := 0, locals := 71 } : Room) s m args below meth c D n ad A 5 0 0 Q en 19 [(0, .ref (ad 100)), (1, .int x1), (2, .int x2), (3, .int x3), (4, .int x4)] [] := by
        intro fu19
        induction fu19 with
        | zero =>
          intro x1 x2 x3 x4 h
          rw [f_X11_findWhose_L19] at h
          cases h
        | succ fu19 ih19 =>
          have hB68 : ∀ (x1 : Int32) (x2 : Int32) (x4 : Int32) (s0 : Int32), f_X11_findWhose_B68 mw mnames (f_X11_findWhose_L4 mw mnames fu4) (f_X11_findWhose_L19 mw mnames (f_X11_findWhose_L4 mw mnames fu4) fu19) x1 x2 x4 s0 = some q → G p l e ({ frames := 3, cells := 0, slots := 0, locals := 71 } : Room) s m args below meth c D n ad A 5 0 0 Q en 68 [(0, .ref (ad 100)), (1, .int x1), (2, .int x2), (4, .int x4)] [.int s0] := by
            intro x1 x2 x4 s0 h
            unfold f_X11_findWhose_B68 at h
            refine G_istore_n hC 3 [(3, .int s0), (0, .ref (ad 100)), (1, .int x1), (2, .int x2), (4, .int x4)] rfl (by decide) rfl dX11_findWhose_68 ?_
            refine G_iinc hC 4 4 [(4, .int (x4 + (1 : Int32))), (3, .int s0), (0, .ref (ad 100)), (1, .int x1), (2, .int x2)] rfl rfl (by decide) rfl dX11_findWhose_69 ?_
            refine G_goto hC 19 dX11_findWhose_72 (by decide) ?_
            refine G_lv [2, 3, 4, 1, 0] rfl ?_
            exact ih19 _ _ _ _ h
          have hB67 : ∀ (x1 : Int32) (x2 : Int32) (x4 : Int32), f_X11_findWhose_B67 mw mnames (f_X11_findWhose_L4 mw mnames fu4) (f_X11_findWhose_L19 mw mnames (f_X11_findWhose_L4 mw mnames fu4) fu19) x1 x2 x4 = some q → G p l e ({ frames := 3, cells := 0, slots := 0, locals := 71 } : Room) s m args below meth c D n ad A 5 0 0 Q en 67 [(0, .ref (ad 100)), (1, .int x1), (2, .int x2), (4, .int x4)] [] := by
            intro x1 x2 x4 h
            unfold f_X11_findWhose_B67 at h
            refine G_iconst hC (v := 0) (by decide) dX11_findWhose_67 ?_
            refine G_lv [0, 1, 2, 3] rfl ?_
            exact hB68 _ _ _ _ h
          have hB63 : ∀ (x1 : Int32) (x2 : Int32) (x4 : Int32), f_X11_findWhose_B63 mw mnames (f_X11_findWhose_L4 mw mnames fu4) (f_X11_findWhose_L19 mw mnames (f_X11_findWhose_L4 mw mnames fu4) fu19) x1 x2 x4 = some q → G p l e ({ frames := 3, cells := 0, slots := 0, locals := 71 } : Room) s m args below meth c D n ad A 5 0 0 Q en 63 [(0, .ref (ad 100)), (1, .int x1), (2, .int x2), (4, .int x4)] [] := by
            intro x1 x2 x4 h
            unfold f_X11_findWhose_B63 at h
            refine G_iconst hC (v := 1) (by decide) dX11_findWhose_63 ?_
            refine G_goto hC 68 dX11_findWhose_64 (by decide) ?_
            refine G_lv [0, 1, 2, 3] rfl ?_
            exact hB68 _ _ _ _ h
          intro x1 x2 x3 x4 h
          rw [f_X11_findWhose_L19] at h
          refine G_iload hC 4 4 rfl dX11_findWhose_19 ?_
          refine G_iconst hC (v := 5) (by decide) dX11_findWhose_21 ?_
          refine G_icmp_ge hC 75 dX11_findWhose_22 (by decide) (fun c22 => ?_) (fun c22 => ?_)
          · have h := ifp c22 h
            refine G_iload_n hC 1 1 rfl rfl dX11_findWhose_75 ?_
            refine G_iload_n hC 3 3 rfl rfl dX11_findWhose_76 ?_
            refine G_if_eq hC 86 dX11_findWhose_77 (by decide) (fun c77 => ?_) (fun c77 => ?_)
            · have h := ifp c77 h
              refine G_iconst hC (v := 0) (by decide) dX11_findWhose_86 ?_
              refine G_lv [0, 2] rfl ?_
              exact hB87 _ _ _ h
            have h := ifn c77 h
            refine G_iconst hC (v := 1) (by decide) dX11_findWhose_80 ?_
            refine G_iload_n hC 2 2 rfl rfl dX11_findWhose_81 ?_
            refine G_ishl hC dX11_findWhose_82 ?_
            refine G_goto hC 87 dX11_findWhose_83 (by decide) ?_
            refine G_lv [0, 2] rfl ?_
            exact hB87 _ _ _ h
          have h := ifn c22 h
          refine G_iload_n hC 3 3 rfl rfl dX11_findWhose_25 ?_
          refine G_if_eq hC 67 dX11_findWhose_26 (by decide) (fun c26 => ?_) (fun c26 => ?_)
          · have h := ifp c26 h
            refine G_lv [0, 1, 2, 4] rfl ?_
            exact hB67 _ _ _ h
          have h := ifn c26 h
          refine G_aload_n hC 0 0 rfl rfl dX11_findWhose_29 ?_
          refine G_get hC inX11 100 (by omega) (v := .ref (ad 101)) e_model rfl 0 (by decide) m7 rfl rfl dX11_findWhose_30 ?_
          refine G_bipush hC (v := 110) (by decide) dX11_findWhose_33 ?_
          refine G_iload hC 4 4 rfl dX11_findWhose_35 ?_
          refine G_iadd hC dX11_findWhose_37 ?_
          obtain ⟨g38, h⟩ := asn h
          refine G_iald hC 101 (by omega) e_mwarr g38 dX11_findWhose_38 ?_
          refine G_iconst hC (v := (-1)) (by decide) dX11_findWhose_39 ?_
          refine G_icmp_eq hC 63 dX11_findWhose_40 (by decide) (fun c40 => ?_) (fun c40 => ?_)
          · have h := ifp c40 h
            refine G_lv [0, 1, 2, 4] rfl ?_
            exact hB63 _ _ _ h
          have h := ifn c40 h
          refine G_aload_n hC 0 0 rfl rfl dX11_findWhose_43 ?_
          refine G_get hC inX11 100 (by omega) (v := .ref (ad 101)) e_model rfl 0 (by decide) m7 rfl rfl dX11_findWhose_44 ?_
          refine G_bipush hC (v := 110) (by decide) dX11_findWhose_47 ?_
          refine G_iload hC 4 4 rfl dX11_findWhose_49 ?_
          refine G_iadd hC dX11_findWhose_51 ?_
          obtain ⟨g52, h⟩ := asn h
          refine G_iald hC 101 (by omega) e_mwarr g52 dX11_findWhose_52 ?_
          refine G_aload_n hC 0 0 rfl rfl dX11_findWhose_53 ?_
          refine G_iload_n hC 2 2 rfl rfl dX11_findWhose_54 ?_
          refine G_iload hC 4 4 rfl dX11_findWhose_55 ?_
          obtain ⟨q57, h57, h⟩ := bnd h
          refine G_cVi (st := [.int (mw ((110 : Int32) + x4).toNatClampNeg)]) hC _ 100 (by omega) (c_X11_partOf  l (by omega) e_model e_mwarr e_mnamesarr h57) (cwV 2 hC.hts gX11_findWhose_X11_partOf rfl rfl rfl (by decide +kernel) ⟨Nat.le_of_ble_eq_true rfl, Nat.le_of_ble_eq_true rfl⟩) e_model rfl rfl (Nat.le_of_ble_eq_true rfl) (Nat.zero_le _) (Nat.zero_le _) rfl dX11_findWhose_57 (fun r57 enx hw => ?_)
          obtain ⟨rfl, rfl⟩ := hw
          refine G_icmp_ne hC 67 dX11_findWhose_60 (by decide) (fun c60 => ?_) (fun c60 => ?_)
          · have h := ifn c60 h
            refine G_lv [0, 1, 2, 4] rfl ?_
            exact hB67 _ _ _ h
          have h := ifp c60 h
          refine G_lv [0, 1, 2, 4] rfl ?_
          exact hB63 _ _ _ h
      intro x1 x2 h
      rw [f_X11_findWhose_L4] at h
      refine G_iload_n hC 2 2 rfl rfl dX11_findWhose_4 ?_
      refine G_aload_n hC 0 0 rfl rfl dX11_findWhose_5 ?_
      refine G_get hC inX11 100 (by omega) (v := .ref (ad 101)) e_model rfl 0 (by decide) m7 rfl rfl dX11_findWhose_6 ?_
      refine G_iconst hC (v := 0) (by decide) dX11_findWhose_9 ?_
      obtain ⟨g10, h⟩ := asn h
      refine G_iald hC 101 (by omega) e_mwarr g10 dX11_findWhose_10 ?_
      refine G_icmp_ge hC 95 dX11_findWhose_11 (by decide) (fun c11 => ?_) (fun c11 => ?_)
      · have h := ifp c11 h
        refine G_iload_n hC 1 1 rfl rfl dX11_findWhose_95 ?_
        have h := Option.some.inj h
        subst h
        exact Kr _ _ _ _ (nar_i _) ⟨rfl, rfl⟩ dX11_findWhose_96
      have h := ifn c11 h
      refine G_iconst hC (v := 1) (by decide) dX11_findWhose_14 ?_
      refine G_istore_n hC 3 [(3, .int (1 : Int32)), (0, .ref (ad 100)), (1, .int x1), (2, .int x2)] rfl (by decide) rfl dX11_findWhose_15 ?_
      refine G_iconst hC (v := 0) (by decide) dX11_findWhose_16 ?_
      refine G_istore hC 4 [(4, .int (0 : Int32)), (3, .int (1 : Int32)), (0, .ref (ad 100)), (1, .int x1), (2, .int x2)] (by decide) rfl dX11_findWhose_17 ?_
      refine G_lv [2, 3, 4, 1, 0] rfl ?_
      exact hL19 FU _ _ _ _ h
  unfold f_X11_findWhose at h
  refine G_iconst hC (v := 0) (by decide) dX11_findWhose_0 ?_
  refine G_istore_n hC 1 [(1, .int (0 : Int32)), (0, .ref (ad 100))] rfl (by decide) rfl dX11_findWhose_1 ?_
  refine G_iconst hC (v := 0) (by decide) dX11_findWhose_2 ?_
  refine G_istore_n hC 2 [(2, .int (0 : Int32)), (1, .int (0 : Int32)), (0, .ref (ad 100))] rfl (by decide) rfl dX11_findWhose_3 ?_
  refine G_lv [2, 1, 0] rfl ?_
  exact hL4 FU _ _ h
def f_X11_whose (mw : Nat → Int32) (mnames : Nat → Int64)  : Option (Int32) := Option.bind (f_X11_findWhose mw mnames) (fun q1 => some q1)
set_option maxHeartbeats 4000000 in
set_option maxRecDepth 100000 in
theorem c_X11_whose {D : va_G} {cs : Nat → ClassId} {sa : Nat → Nat} {n : Nat} {ad : Nat → Nat} {A : Nat → Prop} (l : Launch) {en : Nat → va_E}  {mw : Nat → Int32} {mnames : Nat → Int64} {mtexted : Int32} {mundo : Int32} {mabove : Int64} {mbelow : Int64} {mitems : Int32} {mat : Int32} {mfault : Int32} {mtakes : Int32} {mmisses : Int64} {mbest : Int64} {mh : Int64}   {q : Int32} (hn : 110 ≤ n) (e_model : en 100 = .inr (8, [.ref (ad 101), .ref (ad 102), .ref (ad 103), .ref (ad 104), .int mtexted, .int mundo, .long mabove, .long mbelow, .ref (ad 105), .ref (ad 106), .ref (ad 107), .ref (ad 108), .int mitems, .int mat, .int mfault, .int mtakes, .long mmisses, .long mbest, .ref (ad 109), .long mh])) (e_mwarr : en 101 = .inl (cs 1, 960, .inl (mw))) (e_mnamesarr : en 102 = .inl (cs 2, 96, .inr (.inl (mnames)))) (h : f_X11_whose mw mnames = some q) : Met l yX11_whose wsX11_whose { frames := 4, cells := 0, slots := 0, locals := 95 } (va_Pc [.ref (ad 100)] (Wd D cs sa n ad A en)) (va_Qi (fun r u => q = r ∧ en = u) (Wd D cs sa n ad A) A) 0 0 A := by
  refine G_startI cX11_whose 1 [(0, .ref (ad 100))] (by decide) rfl (Nat.le_of_ble_eq_true rfl) rfl ?_
  intro p e s m args below meth c Q hC hnm Kr
  unfold f_X11_whose at h
  refine G_aload_n hC 0 0 rfl rfl dX11_whose_0 ?_
  obtain ⟨q1, h1, h⟩ := bnd h
  refine G_cVi (st := []) hC _ 100 (by omega) (c_X11_findWhose  l (by omega) e_model e_mwarr e_mnamesarr h1) (cwV 0 hC.hts gX11_whose_X11_findWhose rfl rfl rfl (by decide +kernel) ⟨Nat.le_of_ble_eq_true rfl, Nat.le_of_ble_eq_true rfl⟩) e_model rfl rfl (Nat.le_of_ble_eq_true rfl) (Nat.zero_le _) (Nat.zero_le _) rfl dX11_whose_1 (fun r1 enx hw => ?_)
  obtain ⟨rfl, rfl⟩ := hw
  have h := Option.some.inj h
  subst h
  exact Kr _ _ _ _ (nar_i _) ⟨rfl, rfl⟩ dX11_whose_4
def f_X11_odds_B75 (mw : Nat → Int32) (mnames : Nat → Int64) (rL40 : Int64 → Int64 → (Nat → Int32) → Int32 → Int32 → Int32 → Int32 → Option (Int32 × Int64 × Int64 × (Nat → Int32))) (mabove : Int64) (mbelow : Int64) (mrefused : Nat → Int32) (x1 : Int32) (x2 : Int32) (x4 : Int32) (s0 : Int32) (s1 : Int32) : Option (Int32 × Int64 × Int64 × (Nat → Int32)) := rL40 mabove mbelow mrefused x1 x2 (s0 + s1) (x4 + (1 : Int32))
def f_X11_odds_L40 (mw : Nat → Int32) (mnames : Nat → Int64)  : Nat → Int64 → Int64 → (Nat → Int32) → Int32 → Int32 → Int32 → Int32 → Option (Int32 × Int64 × Int64 × (Nat → Int32))
  | 0, _, _, _, _, _, _, _ => none
  | fu + 1, mabove, mbelow, mrefused, x1, x2, x3, x4 => if (0 : Int32) < 0 ∨ 960 ≤ (0 : Int32).toNatClampNeg then none else (if mw (0 : Int32).toNatClampNeg ≤ x4 then (if (49 : Int32) + x1 < 0 ∨ 960 ≤ ((49 : Int32) + x1).toNatClampNeg then none else (Option.bind (f_X11_share mabove mbelow ((mw ((49 : Int32) + x1).toNatClampNeg).toInt64) x3.toInt64) (fun q96 => some (q96.1, q96.2.1, q96.2.2, mrefused)))) else (Option.bind (f_X11_holds x2 x4) (fun q55 => if q55 = 0 then (f_X11_odds_B75 mw mnames (f_X11_odds_L40 mw mnames fu) mabove mbelow mrefused x1 x2 x4 x3 (0 : Int32)) else (if (49 : Int32) + x4 < 0 ∨ 960 ≤ ((49 : Int32) + x4).toNatClampNeg then none else (f_X11_odds_B75 mw mnames (f_X11_odds_L40 mw mnames fu) mabove mbelow mrefused x1 x2 x4 x3 (mw ((49 : Int32) + x4).toNatClampNeg))))))
def f_X11_odds (mw : Nat → Int32) (mnames : Nat → Int64) (mabove : Int64) (mbelow : Int64) (mrefused : Nat → Int32) (x1 : Int32) : Option (Int32 × Int64 × Int64 × (Nat → Int32)) := Option.bind (f_X11_isOne mw x1) (fun q2 => if q2 = 0 then (Option.bind (f_X11_told mrefused (-2 : Int32)) (fun q11 => some (q11.1, mabove, mbelow, q11.2))) else (Option.bind (f_X11_findWhose mw mnames) (fun q16 => Option.bind (f_X11_holds q16 x1) (fun q22 => if q22 = 0 then (Option.bind (f_X11_told mrefused (-3 : Int32)) (fun q31 => some (q31.1, mabove, mbelow, q31.2))) else (f_X11_odds_L40 mw mnames FU mabove mbelow mrefused x1 q16 (0 : Int32) (0 : Int32))))))
set_option maxHeartbeats 4000000 in
set_option maxRecDepth 100000 in
theorem c_X11_odds {D : va_G} {cs : Nat → ClassId} {sa : Nat → Nat} {n : Nat} {ad : Nat → Nat} {A : Nat → Prop} (l : Launch) {en : Nat → va_E}  {mw : Nat → Int32} {mnames : Nat → Int64} {mtexted : Int32} {mundo : Int32} {mabove : Int64} {mbelow : Int64} {mrefused : Nat → Int32} {mitems : Int32} {mat : Int32} {mfault : Int32} {mtakes : Int32} {mmisses : Int64} {mbest : Int64} {mh : Int64} {x1 : Int32}  {q : Int32 × Int64 × Int64 × (Nat → Int32)} (hn : 110 ≤ n) (e_model : en 100 = .inr (8, [.ref (ad 101), .ref (ad 102), .ref (ad 103), .ref (ad 104), .int mtexted, .int mundo, .long mabove, .long mbelow, .ref (ad 105), .ref (ad 106), .ref (ad 107), .ref (ad 108), .int mitems, .int mat, .int mfault, .int mtakes, .long mmisses, .long mbest, .ref (ad 109), .long mh])) (e_mwarr : en 101 = .inl (cs 1, 960, .inl (mw))) (e_mnamesarr : en 102 = .inl (cs 2, 96, .inr (.inl (mnames)))) (e_mrefusedarr : en 105 = .inl (cs 1, 3, .inl (mrefused))) (h : f_X11_odds mw mnames mabove mbelow mrefused x1 = some q) : Met l yX11_odds wsX11_odds { frames := 4, cells := 0, slots := 0, locals := 95 } (va_Pc [.ref (ad 100), .int x1] (Wd D cs sa n ad A en)) (va_Qi (fun r u => q.1 = r ∧ u 100 = .inr (8, [.ref (ad 101), .ref (ad 102), .ref (ad 103), .ref (ad 104), .int mtexted, .int mundo, .long q.2.1, .long q.2.2.1, .ref (ad 105), .ref (ad 106), .ref (ad 107), .ref (ad 108), .int mitems, .int mat, .int mfault, .int mtakes, .long mmisses, .long mbest, .ref (ad 109), .long mh]) ∧ u 105 = .inl (cs 1, 3, .inl (q.2.2.2)) ∧ (∀ j, (j < 100 ∨ 101 ≤ j) → (j < 105 ∨ 106 ≤ j) → u j = en j)) (Wd D cs sa n ad A) A) 0 0 A := by
  refine G_startI cX11_odds 5 [(0, .ref (ad 100)), (1, .int x1)] (by decide) rfl (Nat.le_of_ble_eq_true rfl) rfl ?_
  intro p e s m args below meth c Q hC hnm Kr
  have inX11 : ∀ w ∈ u_ws RX11 TX11 20, w ∈ wsX11_odds := by decide +kernel
  have m7 : Cond.fieldLink RX11 7 "TongueTipModel" "w" "[I" ∈ wsX11_odds := by decide +kernel
  have hL40 : ∀ (fu40 : Nat), ∀ (en1 : Nat → va_E) (mabove : Int64) (mbelow : Int64) (mrefused : Nat → Int32) (x1 : Int32) (x2 : Int32) (x3 : Int32) (x4 : Int32), en1 100 = .inr (8, [.ref (ad 101), .ref (ad 102), .ref (ad 103), .ref (ad 104), .int mtexted, .int mundo, .long mabove, .long mbelow, .ref (ad 105), .ref (ad 106), .ref (ad 107), .ref (ad 108), .int mitems, .int mat, .int mfault, .int mtakes, .long mmisses, .long mbest, .ref (ad 109), .long mh]) → en1 101 = .inl (cs 1, 960, .inl (mw)) → en1 102 = .inl (cs 2, 96, .inr (.inl (mnames))) → en1 105 = .inl (cs 1, 3, .inl (mrefused)) → (∀ j, (j < 100 ∨ 101 ≤ j) → (j < 105 ∨ 106 ≤ j) → en1 j = en j) → f_X11_odds_L40 mw mnames fu40 mabove mbelow mrefused x1 x2 x3 x4 = some q → G p l e ({ frames := 4, cells := 0, slots := 0, locals := 95 } : Room) s m args below meth c D n ad A 5 0 0 Q en1 40 [(0, .ref (ad 100)), (1, .int x1), (2, .int x2), (3, .int x3), (4, .int x4)] [] := by
    intro fu40
    induction fu40 with
    | zero =>
      intro en1 mabove mbelow mrefused x1 x2 x3 x4 e_model e_mwarr e_mnamesarr e_mrefusedarr hfr h
      rw [f_X11_odds_L40] at h
      cases h
    | succ fu40 ih40 =>
      have hB75 : ∀ (en1 : Nat → va_E) (mabove : Int64) (mbelow : Int64) (mrefused : Nat → Int32) (x1 : Int32) (x2 : Int32) (x4 : Int32) (s0 : Int32) (s1 : Int32), en1 100 = .inr (8, [.ref (ad 101), .ref (ad 102), .ref (ad 103), .ref (ad 104), .int mtexted, .int mundo, .long mabove, .long mbelow, .ref (ad 105), .ref (ad 106), .ref (ad 107), .ref (ad 108), .int mitems, .int mat, .int mfault, .int mtakes, .long mmisses, .long mbest, .ref (ad 109), .long mh]) → en1 101 = .inl (cs 1, 960, .inl (mw)) → en1 102 = .inl (cs 2, 96, .inr (.inl (mnames))) → en1 105 = .inl (cs 1, 3, .inl (mrefused)) → (∀ j, (j < 100 ∨ 101 ≤ j) → (j < 105 ∨ 106 ≤ j) → en1 j = en j) → f_X11_odds_B75 mw mnames (f_X11_odds_L40 mw mnames fu40) mabove mbelow mrefused x1 x2 x4 s0 s1 = some q → G p l e ({ frames := 4, cells := 0, slots := 0, locals := 95 } : Room) s m args below meth c D n ad A 5 0 0 Q en1 75 [(0, .ref (ad 100)), (1, .int x1), (2, .int x2), (4, .int x4)] [.int s1, .int s0] := by
        intro en1 mabove mbelow mrefused x1 x2 x4 s0 s1 e_model e_mwarr e_mnamesarr e_mrefusedarr hfr h
        unfold f_X11_odds_B75 at h
        refine G_iadd hC dX11_odds_75 ?_
        refine G_istore_n hC 3 [(3, .int (s0 + s1)), (0, .ref (ad 100)), (1, .int x1), (2, .int x2), (4, .int x4)] rfl (by decide) rfl dX11_odds_76 ?_
        refine G_iinc hC 4 4 [(4, .int (x4 + (1 : Int32))), (3, .int (s0 + s1)), (0, .ref (ad 100)), (1, .int x1), (2, .int x2)] rfl rfl (by decide) rfl dX11_odds_77 ?_
        refine G_goto hC 40 dX11_odds_80 (by decide) ?_
        refine G_lv [2, 3, 4, 1, 0] rfl ?_
        exact ih40 _ _ _ _ _ _ _ _ e_model e_mwarr e_mnamesarr e_mrefusedarr hfr h
      intro en1 mabove mbelow mrefused x1 x2 x3 x4 e_model e_mwarr e_mnamesarr e_mrefusedarr hfr h
      rw [f_X11_odds_L40] at h
      refine G_iload hC 4 4 rfl dX11_odds_40 ?_
      refine G_aload_n hC 0 0 rfl rfl dX11_odds_42 ?_
      refine G_get hC inX11 100 (by omega) (v := .ref (ad 101)) e_model rfl 0 (by decide) m7 rfl rfl dX11_odds_43 ?_
      refine G_iconst hC (v := 0) (by decide) dX11_odds_46 ?_
      obtain ⟨g47, h⟩ := asn h
      refine G_iald hC 101 (by omega) e_mwarr g47 dX11_odds_47 ?_
      refine G_icmp_ge hC 83 dX11_odds_48 (by decide) (fun c48 => ?_) (fun c48 => ?_)
      · have h := ifp c48 h
        refine G_aload_n hC 0 0 rfl rfl dX11_odds_83 ?_
        refine G_aload_n hC 0 0 rfl rfl dX11_odds_84 ?_
        refine G_get hC inX11 100 (by omega) (v := .ref (ad 101)) e_model rfl 0 (by decide) m7 rfl rfl dX11_odds_85 ?_
        refine G_bipush hC (v := 49) (by decide) dX11_odds_88 ?_
        refine G_iload_n hC 1 1 rfl rfl dX11_odds_90 ?_
        refine G_iadd hC dX11_odds_91 ?_
        obtain ⟨g92, h⟩ := asn h
        refine G_iald hC 101 (by omega) e_mwarr g92 dX11_odds_92 ?_
        refine G_i2l hC dX11_odds_93 ?_
        refine G_iload_n hC 3 3 rfl rfl dX11_odds_94 ?_
        refine G_i2l hC dX11_odds_95 ?_
        obtain ⟨q96, h96, h⟩ := bnd h
        refine G_cVi (st := []) hC _ 100 (by omega) (c_X11_share  l (by omega) e_model h96) (cwV 2 hC.hts gX11_odds_X11_share rfl rfl rfl (by decide +kernel) ⟨Nat.le_of_ble_eq_true rfl, Nat.le_of_ble_eq_true rfl⟩) e_model rfl rfl (Nat.le_of_ble_eq_true rfl) (Nat.zero_le _) (Nat.zero_le _) rfl dX11_odds_96 (fun r96 en2 hw => ?_)
        obtain ⟨rfl, e_model, fr⟩ := hw
        have e_mwarr := (fr 101 (by omega)).trans e_mwarr
        have e_mnamesarr := (fr 102 (by omega)).trans e_mnamesarr
        have e_mrefusedarr := (fr 105 (by omega)).trans e_mrefusedarr
        have hfr : ∀ j, (j < 100 ∨ 101 ≤ j) → (j < 105 ∨ 106 ≤ j) → en2 j = en j := fun j o0 o1 => (fr j (by omega)).trans (hfr j o0 o1)
        have h := Option.some.inj h
        subst h
        exact Kr _ _ _ _ (nar_i _) ⟨rfl, e_model, e_mrefusedarr, hfr⟩ dX11_odds_99
      have h := ifn c48 h
      refine G_iload_n hC 3 3 rfl rfl dX11_odds_51 ?_
      refine G_iload_n hC 2 2 rfl rfl dX11_odds_52 ?_
      refine G_iload hC 4 4 rfl dX11_odds_53 ?_
      obtain ⟨q55, h55, h⟩ := bnd h
      refine G_cSi (st := [.int x3]) hC _ (c_X11_holds  l  h55) (va_cwS 2 hC.hts gX11_odds_X11_holds rfl rfl rfl (by decide +kernel) ⟨Nat.le_of_ble_eq_true rfl, Nat.le_of_ble_eq_true rfl⟩) rfl (Nat.le_of_ble_eq_true rfl) (Nat.zero_le _) (Nat.zero_le _) rfl dX11_odds_55 (fun r55 enx hw => ?_)
      obtain ⟨rfl, rfl⟩ := hw
      refine G_if_eq hC 74 dX11_odds_58 (by decide) (fun c58 => ?_) (fun c58 => ?_)
      · have h := ifp c58 h
        refine G_iconst hC (v := 0) (by decide) dX11_odds_74 ?_
        refine G_lv [0, 1, 2, 4] rfl ?_
        exact hB75 _ _ _ _ _ _ _ _ _ e_model e_mwarr e_mnamesarr e_mrefusedarr hfr h
      have h := ifn c58 h
      refine G_aload_n hC 0 0 rfl rfl dX11_odds_61 ?_
      refine G_get hC inX11 100 (by omega) (v := .ref (ad 101)) e_model rfl 0 (by decide) m7 rfl rfl dX11_odds_62 ?_
      refine G_bipush hC (v := 49) (by decide) dX11_odds_65 ?_
      refine G_iload hC 4 4 rfl dX11_odds_67 ?_
      refine G_iadd hC dX11_odds_69 ?_
      obtain ⟨g70, h⟩ := asn h
      refine G_iald hC 101 (by omega) e_mwarr g70 dX11_odds_70 ?_
      refine G_goto hC 75 dX11_odds_71 (by decide) ?_
      refine G_lv [0, 1, 2, 4] rfl ?_
      exact hB75 _ _ _ _ _ _ _ _ _ e_model e_mwarr e_mnamesarr e_mrefusedarr hfr h
  unfold f_X11_odds at h
  have hfr : ∀ j, (j < 100 ∨ 101 ≤ j) → (j < 105 ∨ 106 ≤ j) → en j = en j := fun _ _ _ => rfl
  refine G_aload_n hC 0 0 rfl rfl dX11_odds_0 ?_
  refine G_iload_n hC 1 1 rfl rfl dX11_odds_1 ?_
  obtain ⟨q2, h2, h⟩ := bnd h
  refine G_cVi (st := []) hC _ 100 (by omega) (c_X11_isOne  l (by omega) e_model e_mwarr h2) (cwV 1 hC.hts gX11_odds_X11_isOne rfl rfl rfl (by decide +kernel) ⟨Nat.le_of_ble_eq_true rfl, Nat.le_of_ble_eq_true rfl⟩) e_model rfl rfl (Nat.le_of_ble_eq_true rfl) (Nat.zero_le _) (Nat.zero_le _) rfl dX11_odds_2 (fun r2 enx hw => ?_)
  obtain ⟨rfl, rfl⟩ := hw
  refine G_if_ne hC 15 dX11_odds_5 (by decide) (fun c5 => ?_) (fun c5 => ?_)
  · have h := ifn c5 h
    refine G_aload_n hC 0 0 rfl rfl dX11_odds_15 ?_
    obtain ⟨q16, h16, h⟩ := bnd h
    refine G_cVi (st := []) hC _ 100 (by omega) (c_X11_findWhose  l (by omega) e_model e_mwarr e_mnamesarr h16) (cwV 0 hC.hts gX11_odds_X11_findWhose rfl rfl rfl (by decide +kernel) ⟨Nat.le_of_ble_eq_true rfl, Nat.le_of_ble_eq_true rfl⟩) e_model rfl rfl (Nat.le_of_ble_eq_true rfl) (Nat.zero_le _) (Nat.zero_le _) rfl dX11_odds_16 (fun r16 enx hw => ?_)
    obtain ⟨rfl, rfl⟩ := hw
    refine G_istore_n hC 2 [(2, .int q16), (0, .ref (ad 100)), (1, .int x1)] rfl (by decide) rfl dX11_odds_19 ?_
    refine G_iload_n hC 2 0 rfl rfl dX11_odds_20 ?_
    refine G_iload_n hC 1 2 rfl rfl dX11_odds_21 ?_
    obtain ⟨q22, h22, h⟩ := bnd h
    refine G_cSi (st := []) hC _ (c_X11_holds  l  h22) (va_cwS 2 hC.hts gX11_odds_X11_holds rfl rfl rfl (by decide +kernel) ⟨Nat.le_of_ble_eq_true rfl, Nat.le_of_ble_eq_true rfl⟩) rfl (Nat.le_of_ble_eq_true rfl) (Nat.zero_le _) (Nat.zero_le _) rfl dX11_odds_22 (fun r22 enx hw => ?_)
    obtain ⟨rfl, rfl⟩ := hw
    refine G_if_ne hC 35 dX11_odds_25 (by decide) (fun c25 => ?_) (fun c25 => ?_)
    · have h := ifn c25 h
      refine G_iconst hC (v := 0) (by decide) dX11_odds_35 ?_
      refine G_istore_n hC 3 [(3, .int (0 : Int32)), (2, .int q16), (0, .ref (ad 100)), (1, .int x1)] rfl (by decide) rfl dX11_odds_36 ?_
      refine G_iconst hC (v := 0) (by decide) dX11_odds_37 ?_
      refine G_istore hC 4 [(4, .int (0 : Int32)), (3, .int (0 : Int32)), (2, .int q16), (0, .ref (ad 100)), (1, .int x1)] (by decide) rfl dX11_odds_38 ?_
      refine G_lv [3, 4, 2, 1, 0] rfl ?_
      exact hL40 FU _ _ _ _ _ _ _ _ e_model e_mwarr e_mnamesarr e_mrefusedarr hfr h
    have h := ifp c25 h
    refine G_aload_n hC 0 1 rfl rfl dX11_odds_28 ?_
    refine G_bipush hC (v := (-3)) (by decide) dX11_odds_29 ?_
    obtain ⟨q31, h31, h⟩ := bnd h
    refine G_cVi (st := []) hC _ 100 (by omega) (c_X11_told  l (by omega) e_model e_mrefusedarr h31) (cwV 1 hC.hts gX11_odds_X11_told rfl rfl rfl (by decide +kernel) ⟨Nat.le_of_ble_eq_true rfl, Nat.le_of_ble_eq_true rfl⟩) e_model rfl rfl (Nat.le_of_ble_eq_true rfl) (Nat.zero_le _) (Nat.zero_le _) rfl dX11_odds_31 (fun r31 en2 hw => ?_)
    obtain ⟨rfl, e_mrefusedarr, fr⟩ := hw
    have e_model := (fr 100 (by omega)).trans e_model
    have e_mwarr := (fr 101 (by omega)).trans e_mwarr
    have e_mnamesarr := (fr 102 (by omega)).trans e_mnamesarr
    have hfr : ∀ j, (j < 100 ∨ 101 ≤ j) → (j < 105 ∨ 106 ≤ j) → en2 j = en j := fun j o0 o1 => (fr j (by omega)).trans (hfr j o0 o1)
    have h := Option.some.inj h
    subst h
    exact Kr _ _ _ _ (nar_i _) ⟨rfl, e_model, e_mrefusedarr, hfr⟩ dX11_odds_34
  have h := ifp c5 h
  refine G_aload_n hC 0 0 rfl rfl dX11_odds_8 ?_
  refine G_bipush hC (v := (-2)) (by decide) dX11_odds_9 ?_
  obtain ⟨q11, h11, h⟩ := bnd h
  refine G_cVi (st := []) hC _ 100 (by omega) (c_X11_told  l (by omega) e_model e_mrefusedarr h11) (cwV 1 hC.hts gX11_odds_X11_told rfl rfl rfl (by decide +kernel) ⟨Nat.le_of_ble_eq_true rfl, Nat.le_of_ble_eq_true rfl⟩) e_model rfl rfl (Nat.le_of_ble_eq_true rfl) (Nat.zero_le _) (Nat.zero_le _) rfl dX11_odds_11 (fun r11 en3 hw => ?_)
  obtain ⟨rfl, e_mrefusedarr, fr⟩ := hw
  have e_model := (fr 100 (by omega)).trans e_model
  have e_mwarr := (fr 101 (by omega)).trans e_mwarr
  have e_mnamesarr := (fr 102 (by omega)).trans e_mnamesarr
  have hfr : ∀ j, (j < 100 ∨ 101 ≤ j) → (j < 105 ∨ 106 ≤ j) → en3 j = en j := fun j o0 o1 => (fr j (by omega)).trans (hfr j o0 o1)
  have h := Option.some.inj h
  subst h
  exact Kr _ _ _ _ (nar_i _) ⟨rfl, e_model, e_mrefusedarr, hfr⟩ dX11_odds_14
def f_X11_leaves_B66 (mw : Nat → Int32) (mnames : Nat → Int64) (rL5 : Int32 → Int32 → Int32 → Int32 → Option (Int32)) (rL18 : Int32 → Int32 → Int32 → Int32 → Int32 → Int32 → Option (Int32)) (x1 : Int32) (x2 : Int32) (x3 : Int32) (x4 : Int32) (x6 : Int32) (s0 : Int32) (s1 : Int32) : Option (Int32) := rL18 x1 x2 x3 x4 (s0 + s1) (x6 + (1 : Int32))
def f_X11_leaves_B65 (mw : Nat → Int32) (mnames : Nat → Int64) (rL5 : Int32 → Int32 → Int32 → Int32 → Option (Int32)) (rL18 : Int32 → Int32 → Int32 → Int32 → Int32 → Int32 → Option (Int32)) (x1 : Int32) (x2 : Int32) (x3 : Int32) (x4 : Int32) (x6 : Int32) (s0 : Int32) : Option (Int32) := f_X11_leaves_B66 mw mnames rL5 rL18 x1 x2 x3 x4 x6 s0 (0 : Int32)
def f_X11_leaves_L18 (mw : Nat → Int32) (mnames : Nat → Int64) (rL5 : Int32 → Int32 → Int32 → Int32 → Option (Int32)) : Nat → Int32 → Int32 → Int32 → Int32 → Int32 → Int32 → Option (Int32)
  | 0, _, _, _, _, _, _ => none
  | fu + 1, x1, x2, x3, x4, x5, x6 => if (0 : Int32) < 0 ∨ 960 ≤ (0 : Int32).toNatClampNeg then none else (if mw (0 : Int32).toNatClampNeg ≤ x6 then (rL5 x1 x2 (x3 + (x5 * x5)) (x4 + (1 : Int32))) else (Option.bind (f_X11_holds x1 x6) (fun q34 => if q34 = 0 then (f_X11_leaves_B65 mw mnames rL5 (f_X11_leaves_L18 mw mnames rL5 fu) x1 x2 x3 x4 x6 x5) else (Option.bind (f_X11_partOf mw mnames x6 x2) (fun q44 => if q44 = x4 then (if (49 : Int32) + x6 < 0 ∨ 960 ≤ ((49 : Int32) + x6).toNatClampNeg then none else (f_X11_leaves_B66 mw mnames rL5 (f_X11_leaves_L18 mw mnames rL5 fu) x1 x2 x3 x4 x6 x5 (mw ((49 : Int32) + x6).toNatClampNeg))) else (f_X11_leaves_B65 mw mnames rL5 (f_X11_leaves_L18 mw mnames rL5 fu) x1 x2 x3 x4 x6 x5))))))
def f_X11_leaves_L5 (mw : Nat → Int32) (mnames : Nat → Int64)  : Nat → Int32 → Int32 → Int32 → Int32 → Option (Int32)
  | 0, _, _, _, _ => none
  | fu + 1, x1, x2, x3, x4 => if (26 : Int32) ≤ x4 then (some x3) else (f_X11_leaves_L18 mw mnames (f_X11_leaves_L5 mw mnames fu) FU x1 x2 x3 x4 (0 : Int32) (0 : Int32))
def f_X11_leaves (mw : Nat → Int32) (mnames : Nat → Int64) (x1 : Int32) (x2 : Int32) : Option (Int32) := f_X11_leaves_L5 mw mnames FU x1 x2 (0 : Int32) (0 : Int32)
set_option maxHeartbeats 4000000 in
set_option maxRecDepth 100000 in
theorem c_X11_leaves {D : va_G} {cs : Nat → ClassId} {sa : Nat → Nat} {n : Nat} {ad : Nat → Nat} {A : Nat → Prop} (l : Launch) {en : Nat → va_E}  {mw : Nat → Int32} {mnames : Nat → Int64} {mtexted : Int32} {mundo : Int32} {mabove : Int64} {mbelow : Int64} {mitems : Int32} {mat : Int32} {mfault : Int32} {mtakes : Int32} {mmisses : Int64} {mbest : Int64} {mh : Int64} {x1 : Int32} {x2 : Int32}  {q : Int32} (hn : 110 ≤ n) (e_model : en 100 = .inr (8, [.ref (ad 101), .ref (ad 102), .ref (ad 103), .ref (ad 104), .int mtexted, .int mundo, .long mabove, .long mbelow, .ref (ad 105), .ref (ad 106), .ref (ad 107), .ref (ad 108), .int mitems, .int mat, .int mfault, .int mtakes, .long mmisses, .long mbest, .ref (ad 109), .long mh])) (e_mwarr : en 101 = .inl (cs 1, 960, .inl (mw))) (e_mnamesarr : en 102 = .inl (cs 2, 96, .inr (.inl (mnames)))) (h : f_X11_leaves mw mnames x1 x2 = some q) : Met l yX11_leaves wsX11_leaves { frames := 3, cells := 0, slots := 0, locals := 71 } (va_Pc [.ref (ad 100), .int x1, .int x2] (Wd D cs sa n ad A en)) (va_Qi (fun r u => q = r ∧ en = u) (Wd D cs sa n ad A) A) 0 0 A := by
  refine G_startI cX11_leaves 7 [(0, .ref (ad 100)), (1, .int x1), (2, .int x2)] (by decide) rfl (Nat.le_of_ble_eq_true rfl) rfl ?_
  intro p e s m args below meth c Q hC hnm Kr
  have inX11 : ∀ w ∈ u_ws RX11 TX11 20, w ∈ wsX11_leaves := by decide +kernel
  have m7 : Cond.fieldLink RX11 7 "TongueTipModel" "w" "[I" ∈ wsX11_leaves := by decide +kernel
  have hL5 : ∀ (fu5 : Nat), ∀ (x1 : Int32) (x2 : Int32) (x3 : Int32) (x4 : Int32), f_X11_leaves_L5 mw mnames fu5 x1 x2 x3 x4 = some q → G p l e ({ frames := 3, cells := 0, slots := 0, locals := 71 } : Room) s m args below meth c D n ad A 7 0 0 Q en 5 [(0, .ref (ad 100)), (1, .int x1), (2, .int x2), (3, .int x3), (4, .int x4)] [] := by
    intro fu5
    induction fu5 with
    | zero =>
      intro x1 x2 x3 x4 h
      rw [f_X11_leaves_L5] at h
      cases h
    | succ fu5 ih5 =>
      have hL18 : ∀ (fu18 : Nat), ∀ (x1 : Int32) (x2 : Int32) (x3 : Int32) (x4 : Int32) (x5 : Int32) (x6 : Int32), f_X11_leaves_L18 mw mnames (f_X11_leaves_L5 mw mnames fu5) fu18 x1 x2 x3 x4 x5 x6 = some q → G p l e ({ frames := 3, cells := 0, slots := 0, locals := 71 } : Room) s m args below meth c D n ad A 7 0 0 Q en 18 [(0, .ref (ad 100)), (1, .int x1), (2, .int x2), (3, .int x3), (4, .int x4), (5, .int x5), (6, .int x6)] [] := by
        intro fu18
        induction fu18 with
        | zero =>
          intro x1 x2 x3 x4 x5 x6 h
          rw [f_X11_leaves_L18] at h
          cases h
        | succ fu18 ih18 =>
          have hB66 : ∀ (x1 : Int32) (x2 : Int32) (x3 : Int32) (x4 : Int32) (x6 : Int32) (s0 : Int32) (s1 : Int32), f_X11_leaves_B66 mw mnames (f_X11_leaves_L5 mw mnames fu5) (f_X11_leaves_L18 mw mnames (f_X11_leaves_L5 mw mnames fu5) fu18) x1 x2 x3 x4 x6 s0 s1 = some q → G p l e ({ frames := 3, cells := 0, slots := 0, locals := 71 } : Room) s m args below meth c D n ad A 7 0 0 Q en 66 [(0, .ref (ad 100)), (1, .int x1), (2, .int x2), (3, .int x3), (4, .int x4), (6, .int x6)] [.int s1, .int s0] := by
            intro x1 x2 x3 x4 x6 s0 s1 h
            unfold f_X11_leaves_B66 at h
            refine G_iadd hC dX11_leaves_66 ?_
            refine G_istore hC 5 [(5, .int (s0 + s1)), (0, .ref (ad 100)), (1, .int x1), (2, .int x2), (3, .int x3), (4, .int x4), (6, .int x6)] (by decide) rfl dX11_leaves_67 ?_
            refine G_iinc hC 6 6 [(6, .int (x6 + (1 : Int32))), (5, .int (s0 + s1)), (0, .ref (ad 100)), (1, .int x1), (2, .int x2), (3, .int x3), (4, .int x4)] rfl rfl (by decide) rfl dX11_leaves_69 ?_
            refine G_goto hC 18 dX11_leaves_72 (by decide) ?_
            refine G_lv [2, 3, 4, 5, 6, 1, 0] rfl ?_
            exact ih18 _ _ _ _ _ _ h
          have hB65 : ∀ (x1 : Int32) (x2 : Int32) (x3 : Int32) (x4 : Int32) (x6 : Int32) (s0 : Int32), f_X11_leaves_B65 mw mnames (f_X11_leaves_L5 mw mnames fu5) (f_X11_leaves_L18 mw mnames (f_X11_leaves_L5 mw mnames fu5) fu18) x1 x2 x3 x4 x6 s0 = some q → G p l e ({ frames := 3, cells := 0, slots := 0, locals := 71 } : Room) s m args below meth c D n ad A 7 0 0 Q en 65 [(0, .ref (ad 100)), (1, .int x1), (2, .int x2), (3, .int x3), (4, .int x4), (6, .int x6)] [.int s0] := by
            intro x1 x2 x3 x4 x6 s0 h
            unfold f_X11_leaves_B65 at h
            refine G_iconst hC (v := 0) (by decide) dX11_leaves_65 ?_
            refine G_lv [0, 1, 2, 3, 4, 5] rfl ?_
            exact hB66 _ _ _ _ _ _ _ h
          intro x1 x2 x3 x4 x5 x6 h
          rw [f_X11_leaves_L18] at h
          refine G_iload hC 6 6 rfl dX11_leaves_18 ?_
          refine G_aload_n hC 0 0 rfl rfl dX11_leaves_20 ?_
          refine G_get hC inX11 100 (by omega) (v := .ref (ad 101)) e_model rfl 0 (by decide) m7 rfl rfl dX11_leaves_21 ?_
          refine G_iconst hC (v := 0) (by decide) dX11_leaves_24 ?_
          obtain ⟨g25, h⟩ := asn h
          refine G_iald hC 101 (by omega) e_mwarr g25 dX11_leaves_25 ?_
          refine G_icmp_ge hC 75 dX11_leaves_26 (by decide) (fun c26 => ?_) (fun c26 => ?_)
          · have h := ifp c26 h
            refine G_iload_n hC 3 3 rfl rfl dX11_leaves_75 ?_
            refine G_iload hC 5 5 rfl dX11_leaves_76 ?_
            refine G_iload hC 5 5 rfl dX11_leaves_78 ?_
            refine G_imul hC dX11_leaves_80 ?_
            refine G_iadd hC dX11_leaves_81 ?_
            refine G_istore_n hC 3 [(3, .int (x3 + (x5 * x5))), (0, .ref (ad 100)), (1, .int x1), (2, .int x2), (4, .int x4), (5, .int x5), (6, .int x6)] rfl (by decide) rfl dX11_leaves_82 ?_
            refine G_iinc hC 4 4 [(4, .int (x4 + (1 : Int32))), (3, .int (x3 + (x5 * x5))), (0, .ref (ad 100)), (1, .int x1), (2, .int x2), (5, .int x5), (6, .int x6)] rfl rfl (by decide) rfl dX11_leaves_83 ?_
            refine G_goto hC 5 dX11_leaves_86 (by decide) ?_
            refine G_lv [2, 3, 4, 1, 0] rfl ?_
            exact ih5 _ _ _ _ h
          have h := ifn c26 h
          refine G_iload hC 5 5 rfl dX11_leaves_29 ?_
          refine G_iload_n hC 1 1 rfl rfl dX11_leaves_31 ?_
          refine G_iload hC 6 6 rfl dX11_leaves_32 ?_
          obtain ⟨q34, h34, h⟩ := bnd h
          refine G_cSi (st := [.int x5]) hC _ (c_X11_holds  l  h34) (va_cwS 2 hC.hts gX11_leaves_X11_holds rfl rfl rfl (by decide +kernel) ⟨Nat.le_of_ble_eq_true rfl, Nat.le_of_ble_eq_true rfl⟩) rfl (Nat.le_of_ble_eq_true rfl) (Nat.zero_le _) (Nat.zero_le _) rfl dX11_leaves_34 (fun r34 enx hw => ?_)
          obtain ⟨rfl, rfl⟩ := hw
          refine G_if_eq hC 65 dX11_leaves_37 (by decide) (fun c37 => ?_) (fun c37 => ?_)
          · have h := ifp c37 h
            refine G_lv [0, 1, 2, 3, 4, 6] rfl ?_
            exact hB65 _ _ _ _ _ _ h
          have h := ifn c37 h
          refine G_aload_n hC 0 0 rfl rfl dX11_leaves_40 ?_
          refine G_iload hC 6 6 rfl dX11_leaves_41 ?_
          refine G_iload_n hC 2 2 rfl rfl dX11_leaves_43 ?_
          obtain ⟨q44, h44, h⟩ := bnd h
          refine G_cVi (st := [.int x5]) hC _ 100 (by omega) (c_X11_partOf  l (by omega) e_model e_mwarr e_mnamesarr h44) (cwV 2 hC.hts gX11_leaves_X11_partOf rfl rfl rfl (by decide +kernel) ⟨Nat.le_of_ble_eq_true rfl, Nat.le_of_ble_eq_true rfl⟩) e_model rfl rfl (Nat.le_of_ble_eq_true rfl) (Nat.zero_le _) (Nat.zero_le _) rfl dX11_leaves_44 (fun r44 enx hw => ?_)
          obtain ⟨rfl, rfl⟩ := hw
          refine G_iload hC 4 4 rfl dX11_leaves_47 ?_
          refine G_icmp_ne hC 65 dX11_leaves_49 (by decide) (fun c49 => ?_) (fun c49 => ?_)
          · have h := ifn c49 h
            refine G_lv [0, 1, 2, 3, 4, 6] rfl ?_
            exact hB65 _ _ _ _ _ _ h
          have h := ifp c49 h
          refine G_aload_n hC 0 0 rfl rfl dX11_leaves_52 ?_
          refine G_get hC inX11 100 (by omega) (v := .ref (ad 101)) e_model rfl 0 (by decide) m7 rfl rfl dX11_leaves_53 ?_
          refine G_bipush hC (v := 49) (by decide) dX11_leaves_56 ?_
          refine G_iload hC 6 6 rfl dX11_leaves_58 ?_
          refine G_iadd hC dX11_leaves_60 ?_
          obtain ⟨g61, h⟩ := asn h
          refine G_iald hC 101 (by omega) e_mwarr g61 dX11_leaves_61 ?_
          refine G_goto hC 66 dX11_leaves_62 (by decide) ?_
          refine G_lv [0, 1, 2, 3, 4, 6] rfl ?_
          exact hB66 _ _ _ _ _ _ _ h
      intro x1 x2 x3 x4 h
      rw [f_X11_leaves_L5] at h
      refine G_iload hC 4 4 rfl dX11_leaves_5 ?_
      refine G_bipush hC (v := 26) (by decide) dX11_leaves_7 ?_
      refine G_icmp_ge hC 89 dX11_leaves_9 (by decide) (fun c9 => ?_) (fun c9 => ?_)
      · have h := ifp c9 h
        refine G_iload_n hC 3 3 rfl rfl dX11_leaves_89 ?_
        have h := Option.some.inj h
        subst h
        exact Kr _ _ _ _ (nar_i _) ⟨rfl, rfl⟩ dX11_leaves_90
      have h := ifn c9 h
      refine G_iconst hC (v := 0) (by decide) dX11_leaves_12 ?_
      refine G_istore hC 5 [(5, .int (0 : Int32)), (0, .ref (ad 100)), (1, .int x1), (2, .int x2), (3, .int x3), (4, .int x4)] (by decide) rfl dX11_leaves_13 ?_
      refine G_iconst hC (v := 0) (by decide) dX11_leaves_15 ?_
      refine G_istore hC 6 [(6, .int (0 : Int32)), (5, .int (0 : Int32)), (0, .ref (ad 100)), (1, .int x1), (2, .int x2), (3, .int x3), (4, .int x4)] (by decide) rfl dX11_leaves_16 ?_
      refine G_lv [2, 3, 4, 5, 6, 1, 0] rfl ?_
      exact hL18 FU _ _ _ _ _ _ h
  unfold f_X11_leaves at h
  refine G_iconst hC (v := 0) (by decide) dX11_leaves_0 ?_
  refine G_istore_n hC 3 [(3, .int (0 : Int32)), (0, .ref (ad 100)), (1, .int x1), (2, .int x2)] rfl (by decide) rfl dX11_leaves_1 ?_
  refine G_iconst hC (v := 0) (by decide) dX11_leaves_2 ?_
  refine G_istore hC 4 [(4, .int (0 : Int32)), (3, .int (0 : Int32)), (0, .ref (ad 100)), (1, .int x1), (2, .int x2)] (by decide) rfl dX11_leaves_3 ?_
  refine G_lv [2, 3, 4, 1, 0] rfl ?_
  exact hL5 FU _ _ _ _ h
def f_X11_next_B78 (mw : Nat → Int32) (mnames : Nat → Int64) (rL23 : (Nat → Int32) → Int32 → Int32 → Int32 → Int32 → Option (Int32 × (Nat → Int32))) (mrefused : Nat → Int32) (x1 : Int32) (x2 : Int32) (x3 : Int32) (x4 : Int32) : Option (Int32 × (Nat → Int32)) := rL23 mrefused x1 x2 x3 (x4 + (1 : Int32))
def f_X11_next_B72 (mw : Nat → Int32) (mnames : Nat → Int64) (rL23 : (Nat → Int32) → Int32 → Int32 → Int32 → Int32 → Option (Int32 × (Nat → Int32))) (mrefused : Nat → Int32) (x1 : Int32) (x4 : Int32) (x5 : Int32) : Option (Int32 × (Nat → Int32)) := f_X11_next_B78 mw mnames rL23 mrefused x1 x4 x5 x4
def f_X11_next_B54 (mw : Nat → Int32) (mnames : Nat → Int64) (rL23 : (Nat → Int32) → Int32 → Int32 → Int32 → Int32 → Option (Int32 × (Nat → Int32))) (mrefused : Nat → Int32) (x1 : Int32) (x2 : Int32) (x3 : Int32) (x4 : Int32) (s0 : Int32) : Option (Int32 × (Nat → Int32)) := if s0 < 0 then (f_X11_next_B78 mw mnames rL23 mrefused x1 x2 x3 x4) else (if x2 = (-1 : Int32) then (f_X11_next_B72 mw mnames rL23 mrefused x1 x4 s0) else (if x3 ≤ s0 then (f_X11_next_B78 mw mnames rL23 mrefused x1 x2 x3 x4) else (f_X11_next_B72 mw mnames rL23 mrefused x1 x4 s0)))
def f_X11_next_L23 (mw : Nat → Int32) (mnames : Nat → Int64)  : Nat → (Nat → Int32) → Int32 → Int32 → Int32 → Int32 → Option (Int32 × (Nat → Int32))
  | 0, _, _, _, _, _ => none
  | fu + 1, mrefused, x1, x2, x3, x4 => if (5 : Int32) ≤ x4 then (some (x2, mrefused)) else (if (110 : Int32) + x4 < 0 ∨ 960 ≤ ((110 : Int32) + x4).toNatClampNeg then none else (if mw ((110 : Int32) + x4).toNatClampNeg = (-1 : Int32) then (Option.bind (f_X11_leaves mw mnames x1 x4) (fun q47 => f_X11_next_B54 mw mnames (f_X11_next_L23 mw mnames fu) mrefused x1 x2 x3 x4 q47)) else (f_X11_next_B54 mw mnames (f_X11_next_L23 mw mnames fu) mrefused x1 x2 x3 x4 (-1 : Int32))))
def f_X11_next (mw : Nat → Int32) (mnames : Nat → Int64) (mrefused : Nat → Int32)  : Option (Int32 × (Nat → Int32)) := Option.bind (f_X11_findWhose mw mnames) (fun q1 => if q1 = 0 then (Option.bind (f_X11_told mrefused (-3 : Int32)) (fun q12 => some (q12.1, q12.2))) else (f_X11_next_L23 mw mnames FU mrefused q1 (-1 : Int32) (0 : Int32) (0 : Int32)))
set_option maxHeartbeats 4000000 in
set_option maxRecDepth 100000 in
theorem c_X11_next {D : va_G} {cs : Nat → ClassId} {sa : Nat → Nat} {n : Nat} {ad : Nat → Nat} {A : Nat → Prop} (l : Launch) {en : Nat → va_E}  {mw : Nat → Int32} {mnames : Nat → Int64} {mtexted : Int32} {mundo : Int32} {mabove : Int64} {mbelow : Int64} {mrefused : Nat → Int32} {mitems : Int32} {mat : Int32} {mfault : Int32} {mtakes : Int32} {mmisses : Int64} {mbest : Int64} {mh : Int64}   {q : Int32 × (Nat → Int32)} (hn : 110 ≤ n) (e_model : en 100 = .inr (8, [.ref (ad 101), .ref (ad 102), .ref (ad 103), .ref (ad 104), .int mtexted, .int mundo, .long mabove, .long mbelow, .ref (ad 105), .ref (ad 106), .ref (ad 107), .ref (ad 108), .int mitems, .int mat, .int mfault, .int mtakes, .long mmisses, .long mbest, .ref (ad 109), .long mh])) (e_mwarr : en 101 = .inl (cs 1, 960, .inl (mw))) (e_mnamesarr : en 102 = .inl (cs 2, 96, .inr (.inl (mnames)))) (e_mrefusedarr : en 105 = .inl (cs 1, 3, .inl (mrefused))) (h : f_X11_next mw mnames mrefused = some q) : Met l yX11_next wsX11_next { frames := 4, cells := 0, slots := 0, locals := 97 } (va_Pc [.ref (ad 100)] (Wd D cs sa n ad A en)) (va_Qi (fun r u => q.1 = r ∧ u 105 = .inl (cs 1, 3, .inl (q.2)) ∧ (∀ j, (j < 105 ∨ 106 ≤ j) → u j = en j)) (Wd D cs sa n ad A) A) 0 0 A := by
  refine G_startI cX11_next 6 [(0, .ref (ad 100))] (by decide) rfl (Nat.le_of_ble_eq_true rfl) rfl ?_
  intro p e s m args below meth c Q hC hnm Kr
  have inX11 : ∀ w ∈ u_ws RX11 TX11 20, w ∈ wsX11_next := by decide +kernel
  have m7 : Cond.fieldLink RX11 7 "TongueTipModel" "w" "[I" ∈ wsX11_next := by decide +kernel
  have hL23 : ∀ (fu23 : Nat), ∀ (en1 : Nat → va_E) (mrefused : Nat → Int32) (x1 : Int32) (x2 : Int32) (x3 : Int32) (x4 : Int32), en1 100 = .inr (8, [.ref (ad 101), .ref (ad 102), .ref (ad 103), .ref (ad 104), .int mtexted, .int mundo, .long mabove, .long mbelow, .ref (ad 105), .ref (ad 106), .ref (ad 107), .ref (ad 108), .int mitems, .int mat, .int mfault, .int mtakes, .long mmisses, .long mbest, .ref (ad 109), .long mh]) → en1 101 = .inl (cs 1, 960, .inl (mw)) → en1 102 = .inl (cs 2, 96, .inr (.inl (mnames))) → en1 105 = .inl (cs 1, 3, .inl (mrefused)) → (∀ j, (j < 105 ∨ 106 ≤ j) → en1 j = en j) → f_X11_next_L23 mw mnames fu23 mrefused x1 x2 x3 x4 = some q → G p l e ({ frames := 4, cells := 0, slots := 0, locals := 97 } : Room) s m args below meth c D n ad A 6 0 0 Q en1 23 [(0, .ref (ad 100)), (1, .int x1), (2, .int x2), (3, .int x3), (4, .int x4)] [] := by
    intro fu23
    induction fu23 with
    | zero =>
      intro en1 mrefused x1 x2 x3 x4 e_model e_mwarr e_mnamesarr e_mrefusedarr hfr h
      rw [f_X11_next_L23] at h
      cases h
    | succ fu23 ih23 =>
      have hB78 : ∀ (en1 : Nat → va_E) (mrefused : Nat → Int32) (x1 : Int32) (x2 : Int32) (x3 : Int32) (x4 : Int32), en1 100 = .inr (8, [.ref (ad 101), .ref (ad 102), .ref (ad 103), .ref (ad 104), .int mtexted, .int mundo, .long mabove, .long mbelow, .ref (ad 105), .ref (ad 106), .ref (ad 107), .ref (ad 108), .int mitems, .int mat, .int mfault, .int mtakes, .long mmisses, .long mbest, .ref (ad 109), .long mh]) → en1 101 = .inl (cs 1, 960, .inl (mw)) → en1 102 = .inl (cs 2, 96, .inr (.inl (mnames))) → en1 105 = .inl (cs 1, 3, .inl (mrefused)) → (∀ j, (j < 105 ∨ 106 ≤ j) → en1 j = en j) → f_X11_next_B78 mw mnames (f_X11_next_L23 mw mnames fu23) mrefused x1 x2 x3 x4 = some q → G p l e ({ frames := 4, cells := 0, slots := 0, locals := 97 } : Room) s m args below meth c D n ad A 6 0 0 Q en1 78 [(0, .ref (ad 100)), (1, .int x1), (2, .int x2), (3, .int x3), (4, .int x4)] [] := by
        intro en1 mrefused x1 x2 x3 x4 e_model e_mwarr e_mnamesarr e_mrefusedarr hfr h
        unfold f_X11_next_B78 at h
        refine G_iinc hC 4 4 [(4, .int (x4 + (1 : Int32))), (0, .ref (ad 100)), (1, .int x1), (2, .int x2), (3, .int x3)] rfl rfl (by decide) rfl dX11_next_78 ?_
        refine G_goto hC 23 dX11_next_81 (by decide) ?_
        refine G_lv [1, 2, 3, 4, 0] rfl ?_
        exact ih23 _ _ _ _ _ _ e_model e_mwarr e_mnamesarr e_mrefusedarr hfr h
      have hB72 : ∀ (en1 : Nat → va_E) (mrefused : Nat → Int32) (x1 : Int32) (x4 : Int32) (x5 : Int32), en1 100 = .inr (8, [.ref (ad 101), .ref (ad 102), .ref (ad 103), .ref (ad 104), .int mtexted, .int mundo, .long mabove, .long mbelow, .ref (ad 105), .ref (ad 106), .ref (ad 107), .ref (ad 108), .int mitems, .int mat, .int mfault, .int mtakes, .long mmisses, .long mbest, .ref (ad 109), .long mh]) → en1 101 = .inl (cs 1, 960, .inl (mw)) → en1 102 = .inl (cs 2, 96, .inr (.inl (mnames))) → en1 105 = .inl (cs 1, 3, .inl (mrefused)) → (∀ j, (j < 105 ∨ 106 ≤ j) → en1 j = en j) → f_X11_next_B72 mw mnames (f_X11_next_L23 mw mnames fu23) mrefused x1 x4 x5 = some q → G p l e ({ frames := 4, cells := 0, slots := 0, locals := 97 } : Room) s m args below meth c D n ad A 6 0 0 Q en1 72 [(0, .ref (ad 100)), (1, .int x1), (4, .int x4), (5, .int x5)] [] := by
        intro en1 mrefused x1 x4 x5 e_model e_mwarr e_mnamesarr e_mrefusedarr hfr h
        unfold f_X11_next_B72 at h
        refine G_iload hC 4 2 rfl dX11_next_72 ?_
        refine G_istore_n hC 2 [(2, .int x4), (0, .ref (ad 100)), (1, .int x1), (4, .int x4), (5, .int x5)] rfl (by decide) rfl dX11_next_74 ?_
        refine G_iload hC 5 4 rfl dX11_next_75 ?_
        refine G_istore_n hC 3 [(3, .int x5), (2, .int x4), (0, .ref (ad 100)), (1, .int x1), (4, .int x4), (5, .int x5)] rfl (by decide) rfl dX11_next_77 ?_
        refine G_lv [2, 3, 1, 0, 4] rfl ?_
        exact hB78 _ _ _ _ _ _ e_model e_mwarr e_mnamesarr e_mrefusedarr hfr h
      have hB54 : ∀ (en1 : Nat → va_E) (mrefused : Nat → Int32) (x1 : Int32) (x2 : Int32) (x3 : Int32) (x4 : Int32) (s0 : Int32), en1 100 = .inr (8, [.ref (ad 101), .ref (ad 102), .ref (ad 103), .ref (ad 104), .int mtexted, .int mundo, .long mabove, .long mbelow, .ref (ad 105), .ref (ad 106), .ref (ad 107), .ref (ad 108), .int mitems, .int mat, .int mfault, .int mtakes, .long mmisses, .long mbest, .ref (ad 109), .long mh]) → en1 101 = .inl (cs 1, 960, .inl (mw)) → en1 102 = .inl (cs 2, 96, .inr (.inl (mnames))) → en1 105 = .inl (cs 1, 3, .inl (mrefused)) → (∀ j, (j < 105 ∨ 106 ≤ j) → en1 j = en j) → f_X11_next_B54 mw mnames (f_X11_next_L23 mw mnames fu23) mrefused x1 x2 x3 x4 s0 = some q → G p l e ({ frames := 4, cells := 0, slots := 0, locals := 97 } : Room) s m args below meth c D n ad A 6 0 0 Q en1 54 [(0, .ref (ad 100)), (1, .int x1), (2, .int x2), (3, .int x3), (4, .int x4)] [.int s0] := by
        intro en1 mrefused x1 x2 x3 x4 s0 e_model e_mwarr e_mnamesarr e_mrefusedarr hfr h
        unfold f_X11_next_B54 at h
        refine G_istore hC 5 [(5, .int s0), (0, .ref (ad 100)), (1, .int x1), (2, .int x2), (3, .int x3), (4, .int x4)] (by decide) rfl dX11_next_54 ?_
        refine G_iload hC 5 0 rfl dX11_next_56 ?_
        refine G_if_lt hC 78 dX11_next_58 (by decide) (fun c58 => ?_) (fun c58 => ?_)
        · have h := ifp c58 h
          refine G_lv [1, 2, 3, 4, 5] rfl ?_
          exact hB78 _ _ _ _ _ _ e_model e_mwarr e_mnamesarr e_mrefusedarr hfr h
        have h := ifn c58 h
        refine G_iload_n hC 2 3 rfl rfl dX11_next_61 ?_
        refine G_iconst hC (v := (-1)) (by decide) dX11_next_62 ?_
        refine G_icmp_eq hC 72 dX11_next_63 (by decide) (fun c63 => ?_) (fun c63 => ?_)
        · have h := ifp c63 h
          refine G_lv [1, 2, 5, 0] rfl ?_
          exact hB72 _ _ _ _ _ e_model e_mwarr e_mnamesarr e_mrefusedarr hfr h
        have h := ifn c63 h
        refine G_iload hC 5 0 rfl dX11_next_66 ?_
        refine G_iload_n hC 3 4 rfl rfl dX11_next_68 ?_
        refine G_icmp_ge hC 78 dX11_next_69 (by decide) (fun c69 => ?_) (fun c69 => ?_)
        · have h := ifp c69 h
          refine G_lv [1, 2, 3, 4, 5] rfl ?_
          exact hB78 _ _ _ _ _ _ e_model e_mwarr e_mnamesarr e_mrefusedarr hfr h
        have h := ifn c69 h
        refine G_lv [1, 2, 5, 0] rfl ?_
        exact hB72 _ _ _ _ _ e_model e_mwarr e_mnamesarr e_mrefusedarr hfr h
      intro en1 mrefused x1 x2 x3 x4 e_model e_mwarr e_mnamesarr e_mrefusedarr hfr h
      rw [f_X11_next_L23] at h
      refine G_iload hC 4 4 rfl dX11_next_23 ?_
      refine G_iconst hC (v := 5) (by decide) dX11_next_25 ?_
      refine G_icmp_ge hC 84 dX11_next_26 (by decide) (fun c26 => ?_) (fun c26 => ?_)
      · have h := ifp c26 h
        refine G_iload_n hC 2 2 rfl rfl dX11_next_84 ?_
        have h := Option.some.inj h
        subst h
        exact Kr _ _ _ _ (nar_i _) ⟨rfl, e_mrefusedarr, hfr⟩ dX11_next_85
      have h := ifn c26 h
      refine G_aload_n hC 0 0 rfl rfl dX11_next_29 ?_
      refine G_get hC inX11 100 (by omega) (v := .ref (ad 101)) e_model rfl 0 (by decide) m7 rfl rfl dX11_next_30 ?_
      refine G_bipush hC (v := 110) (by decide) dX11_next_33 ?_
      refine G_iload hC 4 4 rfl dX11_next_35 ?_
      refine G_iadd hC dX11_next_37 ?_
      obtain ⟨g38, h⟩ := asn h
      refine G_iald hC 101 (by omega) e_mwarr g38 dX11_next_38 ?_
      refine G_iconst hC (v := (-1)) (by decide) dX11_next_39 ?_
      refine G_icmp_ne hC 53 dX11_next_40 (by decide) (fun c40 => ?_) (fun c40 => ?_)
      · have h := ifn c40 h
        refine G_iconst hC (v := (-1)) (by decide) dX11_next_53 ?_
        refine G_lv [0, 1, 2, 3, 4] rfl ?_
        exact hB54 _ _ _ _ _ _ _ e_model e_mwarr e_mnamesarr e_mrefusedarr hfr h
      have h := ifp c40 h
      refine G_aload_n hC 0 0 rfl rfl dX11_next_43 ?_
      refine G_iload_n hC 1 1 rfl rfl dX11_next_44 ?_
      refine G_iload hC 4 4 rfl dX11_next_45 ?_
      obtain ⟨q47, h47, h⟩ := bnd h
      refine G_cVi (st := []) hC _ 100 (by omega) (c_X11_leaves  l (by omega) e_model e_mwarr e_mnamesarr h47) (cwV 2 hC.hts gX11_next_X11_leaves rfl rfl rfl (by decide +kernel) ⟨Nat.le_of_ble_eq_true rfl, Nat.le_of_ble_eq_true rfl⟩) e_model rfl rfl (Nat.le_of_ble_eq_true rfl) (Nat.zero_le _) (Nat.zero_le _) rfl dX11_next_47 (fun r47 enx hw => ?_)
      obtain ⟨rfl, rfl⟩ := hw
      refine G_goto hC 54 dX11_next_50 (by decide) ?_
      refine G_lv [0, 1, 2, 3, 4] rfl ?_
      exact hB54 _ _ _ _ _ _ _ e_model e_mwarr e_mnamesarr e_mrefusedarr hfr h
  unfold f_X11_next at h
  have hfr : ∀ j, (j < 105 ∨ 106 ≤ j) → en j = en j := fun _ _ => rfl
  refine G_aload_n hC 0 0 rfl rfl dX11_next_0 ?_
  obtain ⟨q1, h1, h⟩ := bnd h
  refine G_cVi (st := []) hC _ 100 (by omega) (c_X11_findWhose  l (by omega) e_model e_mwarr e_mnamesarr h1) (cwV 0 hC.hts gX11_next_X11_findWhose rfl rfl rfl (by decide +kernel) ⟨Nat.le_of_ble_eq_true rfl, Nat.le_of_ble_eq_true rfl⟩) e_model rfl rfl (Nat.le_of_ble_eq_true rfl) (Nat.zero_le _) (Nat.zero_le _) rfl dX11_next_1 (fun r1 enx hw => ?_)
  obtain ⟨rfl, rfl⟩ := hw
  refine G_istore_n hC 1 [(1, .int q1), (0, .ref (ad 100))] rfl (by decide) rfl dX11_next_4 ?_
  refine G_iload_n hC 1 0 rfl rfl dX11_next_5 ?_
  refine G_if_ne hC 16 dX11_next_6 (by decide) (fun c6 => ?_) (fun c6 => ?_)
  · have h := ifn c6 h
    refine G_iconst hC (v := (-1)) (by decide) dX11_next_16 ?_
    refine G_istore_n hC 2 [(2, .int (-1 : Int32)), (1, .int q1), (0, .ref (ad 100))] rfl (by decide) rfl dX11_next_17 ?_
    refine G_iconst hC (v := 0) (by decide) dX11_next_18 ?_
    refine G_istore_n hC 3 [(3, .int (0 : Int32)), (2, .int (-1 : Int32)), (1, .int q1), (0, .ref (ad 100))] rfl (by decide) rfl dX11_next_19 ?_
    refine G_iconst hC (v := 0) (by decide) dX11_next_20 ?_
    refine G_istore hC 4 [(4, .int (0 : Int32)), (3, .int (0 : Int32)), (2, .int (-1 : Int32)), (1, .int q1), (0, .ref (ad 100))] (by decide) rfl dX11_next_21 ?_
    refine G_lv [4, 3, 2, 1, 0] rfl ?_
    exact hL23 FU _ _ _ _ _ _ e_model e_mwarr e_mnamesarr e_mrefusedarr hfr h
  have h := ifp c6 h
  refine G_aload_n hC 0 1 rfl rfl dX11_next_9 ?_
  refine G_bipush hC (v := (-3)) (by decide) dX11_next_10 ?_
  obtain ⟨q12, h12, h⟩ := bnd h
  refine G_cVi (st := []) hC _ 100 (by omega) (c_X11_told  l (by omega) e_model e_mrefusedarr h12) (cwV 1 hC.hts gX11_next_X11_told rfl rfl rfl (by decide +kernel) ⟨Nat.le_of_ble_eq_true rfl, Nat.le_of_ble_eq_true rfl⟩) e_model rfl rfl (Nat.le_of_ble_eq_true rfl) (Nat.zero_le _) (Nat.zero_le _) rfl dX11_next_12 (fun r12 en2 hw => ?_)
  obtain ⟨rfl, e_mrefusedarr, fr⟩ := hw
  have e_model := (fr 100 (by omega)).trans e_model
  have e_mwarr := (fr 101 (by omega)).trans e_mwarr
  have e_mnamesarr := (fr 102 (by omega)).trans e_mnamesarr
  have hfr : ∀ j, (j < 105 ∨ 106 ≤ j) → en2 j = en j := fun j o0 => (fr j (by omega)).trans (hfr j o0)
  have h := Option.some.inj h
  subst h
  exact Kr _ _ _ _ (nar_i _) ⟨rfl, e_mrefusedarr, hfr⟩ dX11_next_15
def f_X11_question (mw : Nat → Int32) (mrefused : Nat → Int32) (x1 : Int32) (x2 : Int32) : Option (Int32 × (Nat → Int32) × (Nat → Int32)) := Option.bind (f_X11_oneQuestion mw (0 : Int32) x1 x2) (fun q5 => Option.bind (f_X11_told mrefused q5.1) (fun q8 => some (q8.1, q5.2, q8.2)))
set_option maxHeartbeats 4000000 in
set_option maxRecDepth 100000 in
theorem c_X11_question {D : va_G} {cs : Nat → ClassId} {sa : Nat → Nat} {n : Nat} {ad : Nat → Nat} {A : Nat → Prop} (l : Launch) {en : Nat → va_E}  {mw : Nat → Int32} {mtexted : Int32} {mundo : Int32} {mabove : Int64} {mbelow : Int64} {mrefused : Nat → Int32} {mitems : Int32} {mat : Int32} {mfault : Int32} {mtakes : Int32} {mmisses : Int64} {mbest : Int64} {mh : Int64} {x1 : Int32} {x2 : Int32}  {q : Int32 × (Nat → Int32) × (Nat → Int32)} (hn : 110 ≤ n) (e_model : en 100 = .inr (8, [.ref (ad 101), .ref (ad 102), .ref (ad 103), .ref (ad 104), .int mtexted, .int mundo, .long mabove, .long mbelow, .ref (ad 105), .ref (ad 106), .ref (ad 107), .ref (ad 108), .int mitems, .int mat, .int mfault, .int mtakes, .long mmisses, .long mbest, .ref (ad 109), .long mh])) (e_mwarr : en 101 = .inl (cs 1, 960, .inl (mw))) (e_mrefusedarr : en 105 = .inl (cs 1, 3, .inl (mrefused))) (h : f_X11_question mw mrefused x1 x2 = some q) : Met l yX11_question wsX11_question { frames := 2, cells := 0, slots := 0, locals := 49 } (va_Pc [.ref (ad 100), .int x1, .int x2] (Wd D cs sa n ad A en)) (va_Qi (fun r u => q.1 = r ∧ u 101 = .inl (cs 1, 960, .inl (q.2.1)) ∧ u 105 = .inl (cs 1, 3, .inl (q.2.2)) ∧ (∀ j, (j < 101 ∨ 102 ≤ j) → (j < 105 ∨ 106 ≤ j) → u j = en j)) (Wd D cs sa n ad A) A) 0 0 A := by
  refine G_startI cX11_question 3 [(0, .ref (ad 100)), (1, .int x1), (2, .int x2)] (by decide) rfl (Nat.le_of_ble_eq_true rfl) rfl ?_
  intro p e s m args below meth c Q hC hnm Kr
  unfold f_X11_question at h
  have hfr : ∀ j, (j < 101 ∨ 102 ≤ j) → (j < 105 ∨ 106 ≤ j) → en j = en j := fun _ _ _ => rfl
  refine G_aload_n hC 0 0 rfl rfl dX11_question_0 ?_
  refine G_aload_n hC 0 0 rfl rfl dX11_question_1 ?_
  refine G_iconst hC (v := 0) (by decide) dX11_question_2 ?_
  refine G_iload_n hC 1 1 rfl rfl dX11_question_3 ?_
  refine G_iload_n hC 2 2 rfl rfl dX11_question_4 ?_
  obtain ⟨q5, h5, h⟩ := bnd h
  refine G_cVi (st := [.ref (ad 100)]) hC _ 100 (by omega) (c_X11_oneQuestion  l (by omega) e_model e_mwarr h5) (cwV 3 hC.hts gX11_question_X11_oneQuestion rfl rfl rfl (by decide +kernel) ⟨Nat.le_of_ble_eq_true rfl, Nat.le_of_ble_eq_true rfl⟩) e_model rfl rfl (Nat.le_of_ble_eq_true rfl) (Nat.zero_le _) (Nat.zero_le _) rfl dX11_question_5 (fun r5 en2 hw => ?_)
  obtain ⟨rfl, e_mwarr, fr⟩ := hw
  have e_model := (fr 100 (by omega)).trans e_model
  have e_mrefusedarr := (fr 105 (by omega)).trans e_mrefusedarr
  have hfr : ∀ j, (j < 101 ∨ 102 ≤ j) → (j < 105 ∨ 106 ≤ j) → en2 j = en j := fun j o0 o1 => (fr j (by omega)).trans (hfr j o0 o1)
  obtain ⟨q8, h8, h⟩ := bnd h
  refine G_cVi (st := []) hC _ 100 (by omega) (c_X11_told  l (by omega) e_model e_mrefusedarr h8) (cwV 1 hC.hts gX11_question_X11_told rfl rfl rfl (by decide +kernel) ⟨Nat.le_of_ble_eq_true rfl, Nat.le_of_ble_eq_true rfl⟩) e_model rfl rfl (Nat.le_of_ble_eq_true rfl) (Nat.zero_le _) (Nat.zero_le _) rfl dX11_question_8 (fun r8 en3 hw => ?_)
  obtain ⟨rfl, e_mrefusedarr, fr⟩ := hw
  have e_model := (fr 100 (by omega)).trans e_model
  have e_mwarr := (fr 101 (by omega)).trans e_mwarr
  have hfr : ∀ j, (j < 101 ∨ 102 ≤ j) → (j < 105 ∨ 106 ≤ j) → en3 j = en j := fun j o0 o1 => (fr j (by omega)).trans (hfr j o0 o1)
  have h := Option.some.inj h
  subst h
  exact Kr _ _ _ _ (nar_i _) ⟨rfl, e_mwarr, e_mrefusedarr, hfr⟩ dX11_question_11
def f_X11_ask_B114 (mw : Nat → Int32) (mnames : Nat → Int64) (rL23 : (Nat → Int32) → Int32 → Int32 → Int32 → Int32 → Option (Int32 × (Nat → Int32))) (mrefused : Nat → Int32) (x1 : Int32) (x2 : Int32) (x3 : Int32) (x4 : Int32) : Option (Int32 × (Nat → Int32)) := rL23 mrefused x1 x2 x3 (x4 + (1 : Int32))
def f_X11_ask_B108 (mw : Nat → Int32) (mnames : Nat → Int64) (rL23 : (Nat → Int32) → Int32 → Int32 → Int32 → Int32 → Option (Int32 × (Nat → Int32))) (mrefused : Nat → Int32) (x1 : Int32) (x4 : Int32) (x5 : Int32) : Option (Int32 × (Nat → Int32)) := f_X11_ask_B114 mw mnames rL23 mrefused x1 x4 x5 x4
def f_X11_ask_B90 (mw : Nat → Int32) (mnames : Nat → Int64) (rL23 : (Nat → Int32) → Int32 → Int32 → Int32 → Int32 → Option (Int32 × (Nat → Int32))) (mrefused : Nat → Int32) (x1 : Int32) (x2 : Int32) (x3 : Int32) (x4 : Int32) (s0 : Int32) : Option (Int32 × (Nat → Int32)) := if s0 < 0 then (f_X11_ask_B114 mw mnames rL23 mrefused x1 x2 x3 x4) else (if x2 = (-1 : Int32) then (f_X11_ask_B108 mw mnames rL23 mrefused x1 x4 s0) else (if x3 ≤ s0 then (f_X11_ask_B114 mw mnames rL23 mrefused x1 x2 x3 x4) else (f_X11_ask_B108 mw mnames rL23 mrefused x1 x4 s0)))
def f_X11_ask_L23 (mw : Nat → Int32) (mnames : Nat → Int64)  : Nat → (Nat → Int32) → Int32 → Int32 → Int32 → Int32 → Option (Int32 × (Nat → Int32))
  | 0, _, _, _, _, _ => none
  | fu + 1, mrefused, x1, x2, x3, x4 => if (89 : Int32) < 0 ∨ 960 ≤ (89 : Int32).toNatClampNeg then none else (if mw (89 : Int32).toNatClampNeg ≤ x4 then (some (x2, mrefused)) else (if (90 : Int32) + x4 < 0 ∨ 960 ≤ ((90 : Int32) + x4).toNatClampNeg then none else (if (110 : Int32) + (mw ((90 : Int32) + x4).toNatClampNeg) < 0 ∨ 960 ≤ ((110 : Int32) + (mw ((90 : Int32) + x4).toNatClampNeg)).toNatClampNeg then none else (if mw ((110 : Int32) + (mw ((90 : Int32) + x4).toNatClampNeg)).toNatClampNeg = (-1 : Int32) then (if (90 : Int32) + x4 < 0 ∨ 960 ≤ ((90 : Int32) + x4).toNatClampNeg then none else (Option.bind (f_X11_leaves mw mnames x1 (mw ((90 : Int32) + x4).toNatClampNeg)) (fun q71 => if (96 : Int32) + x4 < 0 ∨ 960 ≤ ((96 : Int32) + x4).toNatClampNeg then none else (f_X11_ask_B90 mw mnames (f_X11_ask_L23 mw mnames fu) mrefused x1 x2 x3 x4 (((100 : Int32) * q71) + (mw ((96 : Int32) + x4).toNatClampNeg)))))) else (f_X11_ask_B90 mw mnames (f_X11_ask_L23 mw mnames fu) mrefused x1 x2 x3 x4 (-1 : Int32))))))
def f_X11_ask (mw : Nat → Int32) (mnames : Nat → Int64) (mrefused : Nat → Int32)  : Option (Int32 × (Nat → Int32)) := Option.bind (f_X11_findWhose mw mnames) (fun q1 => if q1 = 0 then (Option.bind (f_X11_told mrefused (-3 : Int32)) (fun q12 => some (q12.1, q12.2))) else (f_X11_ask_L23 mw mnames FU mrefused q1 (-1 : Int32) (0 : Int32) (0 : Int32)))
set_option maxHeartbeats 4000000 in
set_option maxRecDepth 100000 in
theorem c_X11_ask {D : va_G} {cs : Nat → ClassId} {sa : Nat → Nat} {n : Nat} {ad : Nat → Nat} {A : Nat → Prop} (l : Launch) {en : Nat → va_E}  {mw : Nat → Int32} {mnames : Nat → Int64} {mtexted : Int32} {mundo : Int32} {mabove : Int64} {mbelow : Int64} {mrefused : Nat → Int32} {mitems : Int32} {mat : Int32} {mfault : Int32} {mtakes : Int32} {mmisses : Int64} {mbest : Int64} {mh : Int64}   {q : Int32 × (Nat → Int32)} (hn : 110 ≤ n) (e_model : en 100 = .inr (8, [.ref (ad 101), .ref (ad 102), .ref (ad 103), .ref (ad 104), .int mtexted, .int mundo, .long mabove, .long mbelow, .ref (ad 105), .ref (ad 106), .ref (ad 107), .ref (ad 108), .int mitems, .int mat, .int mfault, .int mtakes, .long mmisses, .long mbest, .ref (ad 109), .long mh])) (e_mwarr : en 101 = .inl (cs 1, 960, .inl (mw))) (e_mnamesarr : en 102 = .inl (cs 2, 96, .inr (.inl (mnames)))) (e_mrefusedarr : en 105 = .inl (cs 1, 3, .inl (mrefused))) (h : f_X11_ask mw mnames mrefused = some q) : Met l yX11_ask wsX11_ask { frames := 4, cells := 0, slots := 0, locals := 97 } (va_Pc [.ref (ad 100)] (Wd D cs sa n ad A en)) (va_Qi (fun r u => q.1 = r ∧ u 105 = .inl (cs 1, 3, .inl (q.2)) ∧ (∀ j, (j < 105 ∨ 106 ≤ j) → u j = en j)) (Wd D cs sa n ad A) A) 0 0 A := by
  refine G_startI cX11_ask 6 [(0, .ref (ad 100))] (by decide) rfl (Nat.le_of_ble_eq_true rfl) rfl ?_
  intro p e s m args below meth c Q hC hnm Kr
  have inX11 : ∀ w ∈ u_ws RX11 TX11 20, w ∈ wsX11_ask := by decide +kernel
  have m7 : Cond.fieldLink RX11 7 "TongueTipModel" "w" "[I" ∈ wsX11_ask := by decide +kernel
  have hL23 : ∀ (fu23 : Nat), ∀ (en1 : Nat → va_E) (mrefused : Nat → Int32) (x1 : Int32) (x2 : Int32) (x3 : Int32) (x4 : Int32), en1 100 = .inr (8, [.ref (ad 101), .ref (ad 102), .ref (ad 103), .ref (ad 104), .int mtexted, .int mundo, .long mabove, .long mbelow, .ref (ad 105), .ref (ad 106), .ref (ad 107), .ref (ad 108), .int mitems, .int mat, .int mfault, .int mtakes, .long mmisses, .long mbest, .ref (ad 109), .long mh]) → en1 101 = .inl (cs 1, 960, .inl (mw)) → en1 102 = .inl (cs 2, 96, .inr (.inl (mnames))) → en1 105 = .inl (cs 1, 3, .inl (mrefused)) → (∀ j, (j < 105 ∨ 106 ≤ j) → en1 j = en j) → f_X11_ask_L23 mw mnames fu23 mrefused x1 x2 x3 x4 = some q → G p l e ({ frames := 4, cells := 0, slots := 0, locals := 97 } : Room) s m args below meth c D n ad A 6 0 0 Q en1 23 [(0, .ref (ad 100)), (1, .int x1), (2, .int x2), (3, .int x3), (4, .int x4)] [] := by
    intro fu23
    induction fu23 with
    | zero =>
      intro en1 mrefused x1 x2 x3 x4 e_model e_mwarr e_mnamesarr e_mrefusedarr hfr h
      rw [f_X11_ask_L23] at h
      cases h
    | succ fu23 ih23 =>
      have hB114 : ∀ (en1 : Nat → va_E) (mrefused : Nat → Int32) (x1 : Int32) (x2 : Int32) (x3 : Int32) (x4 : Int32), en1 100 = .inr (8, [.ref (ad 101), .ref (ad 102), .ref (ad 103), .ref (ad 104), .int mtexted, .int mundo, .long mabove, .long mbelow, .ref (ad 105), .ref (ad 106), .ref (ad 107), .ref (ad 108), .int mitems, .int mat, .int mfault, .int mtakes, .long mmisses, .long mbest, .ref (ad 109), .long mh]) → en1 101 = .inl (cs 1, 960, .inl (mw)) → en1 102 = .inl (cs 2, 96, .inr (.inl (mnames))) → en1 105 = .inl (cs 1, 3, .inl (mrefused)) → (∀ j, (j < 105 ∨ 106 ≤ j) → en1 j = en j) → f_X11_ask_B114 mw mnames (f_X11_ask_L23 mw mnames fu23) mrefused x1 x2 x3 x4 = some q → G p l e ({ frames := 4, cells := 0, slots := 0, locals := 97 } : Room) s m args below meth c D n ad A 6 0 0 Q en1 114 [(0, .ref (ad 100)), (1, .int x1), (2, .int x2), (3, .int x3), (4, .int x4)] [] := by
        intro en1 mrefused x1 x2 x3 x4 e_model e_mwarr e_mnamesarr e_mrefusedarr hfr h
        unfold f_X11_ask_B114 at h
        refine G_iinc hC 4 4 [(4, .int (x4 + (1 : Int32))), (0, .ref (ad 100)), (1, .int x1), (2, .int x2), (3, .int x3)] rfl rfl (by decide) rfl dX11_ask_114 ?_
        refine G_goto hC 23 dX11_ask_117 (by decide) ?_
        refine G_lv [1, 2, 3, 4, 0] rfl ?_
        exact ih23 _ _ _ _ _ _ e_model e_mwarr e_mnamesarr e_mrefusedarr hfr h
      have hB108 : ∀ (en1 : Nat → va_E) (mrefused : Nat → Int32) (x1 : Int32) (x4 : Int32) (x5 : Int32), en1 100 = .inr (8, [.ref (ad 101), .ref (ad 102), .ref (ad 103), .ref (ad 104), .int mtexted, .int mundo, .long mabove, .long mbelow, .ref (ad 105), .ref (ad 106), .ref (ad 107), .ref (ad 108), .int mitems, .int mat, .int mfault, .int mtakes, .long mmisses, .long mbest, .ref (ad 109), .long mh]) → en1 101 = .inl (cs 1, 960, .inl (mw)) → en1 102 = .inl (cs 2, 96, .inr (.inl (mnames))) → en1 105 = .inl (cs 1, 3, .inl (mrefused)) → (∀ j, (j < 105 ∨ 106 ≤ j) → en1 j = en j) → f_X11_ask_B108 mw mnames (f_X11_ask_L23 mw mnames fu23) mrefused x1 x4 x5 = some q → G p l e ({ frames := 4, cells := 0, slots := 0, locals := 97 } : Room) s m args below meth c D n ad A 6 0 0 Q en1 108 [(0, .ref (ad 100)), (1, .int x1), (4, .int x4), (5, .int x5)] [] := by
        intro en1 mrefused x1 x4 x5 e_model e_mwarr e_mnamesarr e_mrefusedarr hfr h
        unfold f_X11_ask_B108 at h
        refine G_iload hC 4 2 rfl dX11_ask_108 ?_
        refine G_istore_n hC 2 [(2, .int x4), (0, .ref (ad 100)), (1, .int x1), (4, .int x4), (5, .int x5)] rfl (by decide) rfl dX11_ask_110 ?_
        refine G_iload hC 5 4 rfl dX11_ask_111 ?_
        refine G_istore_n hC 3 [(3, .int x5), (2, .int x4), (0, .ref (ad 100)), (1, .int x1), (4, .int x4), (5, .int x5)] rfl (by decide) rfl dX11_ask_113 ?_
        refine G_lv [2, 3, 1, 0, 4] rfl ?_
        exact hB114 _ _ _ _ _ _ e_model e_mwarr e_mnamesarr e_mrefusedarr hfr h
      have hB90 : ∀ (en1 : Nat → va_E) (mrefused : Nat → Int32) (x1 : Int32) (x2 : Int32) (x3 : Int32) (x4 : Int32) (s0 : Int32), en1 100 = .inr (8, [.ref (ad 101), .ref (ad 102), .ref (ad 103), .ref (ad 104), .int mtexted, .int mundo, .long mabove, .long mbelow, .ref (ad 105), .ref (ad 106), .ref (ad 107), .ref (ad 108), .int mitems, .int mat, .int mfault, .int mtakes, .long mmisses, .long mbest, .ref (ad 109), .long mh]) → en1 101 = .inl (cs 1, 960, .inl (mw)) → en1 102 = .inl (cs 2, 96, .inr (.inl (mnames))) → en1 105 = .inl (cs 1, 3, .inl (mrefused)) → (∀ j, (j < 105 ∨ 106 ≤ j) → en1 j = en j) → f_X11_ask_B90 mw mnames (f_X11_ask_L23 mw mnames fu23) mrefused x1 x2 x3 x4 s0 = some q → G p l e ({ frames := 4, cells := 0, slots := 0, locals := 97 } : Room) s m args below meth c D n ad A 6 0 0 Q en1 90 [(0, .ref (ad 100)), (1, .int x1), (2, .int x2), (3, .int x3), (4, .int x4)] [.int s0] := by
        intro en1 mrefused x1 x2 x3 x4 s0 e_model e_mwarr e_mnamesarr e_mrefusedarr hfr h
        unfold f_X11_ask_B90 at h
        refine G_istore hC 5 [(5, .int s0), (0, .ref (ad 100)), (1, .int x1), (2, .int x2), (3, .int x3), (4, .int x4)] (by decide) rfl dX11_ask_90 ?_
        refine G_iload hC 5 0 rfl dX11_ask_92 ?_
        refine G_if_lt hC 114 dX11_ask_94 (by decide) (fun c94 => ?_) (fun c94 => ?_)
        · have h := ifp c94 h
          refine G_lv [1, 2, 3, 4, 5] rfl ?_
          exact hB114 _ _ _ _ _ _ e_model e_mwarr e_mnamesarr e_mrefusedarr hfr h
        have h := ifn c94 h
        refine G_iload_n hC 2 3 rfl rfl dX11_ask_97 ?_
        refine G_iconst hC (v := (-1)) (by decide) dX11_ask_98 ?_
        refine G_icmp_eq hC 108 dX11_ask_99 (by decide) (fun c99 => ?_) (fun c99 => ?_)
        · have h := ifp c99 h
          refine G_lv [1, 2, 5, 0] rfl ?_
          exact hB108 _ _ _ _ _ e_model e_mwarr e_mnamesarr e_mrefusedarr hfr h
        have h := ifn c99 h
        refine G_iload hC 5 0 rfl dX11_ask_102 ?_
        refine G_iload_n hC 3 4 rfl rfl dX11_ask_104 ?_
        refine G_icmp_ge hC 114 dX11_ask_105 (by decide) (fun c105 => ?_) (fun c105 => ?_)
        · have h := ifp c105 h
          refine G_lv [1, 2, 3, 4, 5] rfl ?_
          exact hB114 _ _ _ _ _ _ e_model e_mwarr e_mnamesarr e_mrefusedarr hfr h
        have h := ifn c105 h
        refine G_lv [1, 2, 5, 0] rfl ?_
        exact hB108 _ _ _ _ _ e_model e_mwarr e_mnamesarr e_mrefusedarr hfr h
      intro en1 mrefused x1 x2 x3 x4 e_model e_mwarr e_mnamesarr e_mrefusedarr hfr h
      rw [f_X11_ask_L23] at h
      refine G_iload hC 4 4 rfl dX11_ask_23 ?_
      refine G_aload_n hC 0 0 rfl rfl dX11_ask_25 ?_
      refine G_get hC inX11 100 (by omega) (v := .ref (ad 101)) e_model rfl 0 (by decide) m7 rfl rfl dX11_ask_26 ?_
      refine G_bipush hC (v := 89) (by decide) dX11_ask_29 ?_
      obtain ⟨g31, h⟩ := asn h
      refine G_iald hC 101 (by omega) e_mwarr g31 dX11_ask_31 ?_
      refine G_icmp_ge hC 120 dX11_ask_32 (by decide) (fun c32 => ?_) (fun c32 => ?_)
      · have h := ifp c32 h
        refine G_iload_n hC 2 2 rfl rfl dX11_ask_120 ?_
        have h := Option.some.inj h
        subst h
        exact Kr _ _ _ _ (nar_i _) ⟨rfl, e_mrefusedarr, hfr⟩ dX11_ask_121
      have h := ifn c32 h
      refine G_aload_n hC 0 0 rfl rfl dX11_ask_35 ?_
      refine G_get hC inX11 100 (by omega) (v := .ref (ad 101)) e_model rfl 0 (by decide) m7 rfl rfl dX11_ask_36 ?_
      refine G_bipush hC (v := 110) (by decide) dX11_ask_39 ?_
      refine G_aload_n hC 0 0 rfl rfl dX11_ask_41 ?_
      refine G_get hC inX11 100 (by omega) (v := .ref (ad 101)) e_model rfl 0 (by decide) m7 rfl rfl dX11_ask_42 ?_
      refine G_bipush hC (v := 90) (by decide) dX11_ask_45 ?_
      refine G_iload hC 4 4 rfl dX11_ask_47 ?_
      refine G_iadd hC dX11_ask_49 ?_
      obtain ⟨g50, h⟩ := asn h
      refine G_iald hC 101 (by omega) e_mwarr g50 dX11_ask_50 ?_
      refine G_iadd hC dX11_ask_51 ?_
      obtain ⟨g52, h⟩ := asn h
      refine G_iald hC 101 (by omega) e_mwarr g52 dX11_ask_52 ?_
      refine G_iconst hC (v := (-1)) (by decide) dX11_ask_53 ?_
      refine G_icmp_ne hC 89 dX11_ask_54 (by decide) (fun c54 => ?_) (fun c54 => ?_)
      · have h := ifn c54 h
        refine G_iconst hC (v := (-1)) (by decide) dX11_ask_89 ?_
        refine G_lv [0, 1, 2, 3, 4] rfl ?_
        exact hB90 _ _ _ _ _ _ _ e_model e_mwarr e_mnamesarr e_mrefusedarr hfr h
      have h := ifp c54 h
      refine G_bipush hC (v := 100) (by decide) dX11_ask_57 ?_
      refine G_aload_n hC 0 0 rfl rfl dX11_ask_59 ?_
      refine G_iload_n hC 1 1 rfl rfl dX11_ask_60 ?_
      refine G_aload_n hC 0 0 rfl rfl dX11_ask_61 ?_
      refine G_get hC inX11 100 (by omega) (v := .ref (ad 101)) e_model rfl 0 (by decide) m7 rfl rfl dX11_ask_62 ?_
      refine G_bipush hC (v := 90) (by decide) dX11_ask_65 ?_
      refine G_iload hC 4 4 rfl dX11_ask_67 ?_
      refine G_iadd hC dX11_ask_69 ?_
      obtain ⟨g70, h⟩ := asn h
      refine G_iald hC 101 (by omega) e_mwarr g70 dX11_ask_70 ?_
      obtain ⟨q71, h71, h⟩ := bnd h
      refine G_cVi (st := [.int (100 : Int32)]) hC _ 100 (by omega) (c_X11_leaves  l (by omega) e_model e_mwarr e_mnamesarr h71) (cwV 2 hC.hts gX11_ask_X11_leaves rfl rfl rfl (by decide +kernel) ⟨Nat.le_of_ble_eq_true rfl, Nat.le_of_ble_eq_true rfl⟩) e_model rfl rfl (Nat.le_of_ble_eq_true rfl) (Nat.zero_le _) (Nat.zero_le _) rfl dX11_ask_71 (fun r71 enx hw => ?_)
      obtain ⟨rfl, rfl⟩ := hw
      refine G_imul hC dX11_ask_74 ?_
      refine G_aload_n hC 0 0 rfl rfl dX11_ask_75 ?_
      refine G_get hC inX11 100 (by omega) (v := .ref (ad 101)) e_model rfl 0 (by decide) m7 rfl rfl dX11_ask_76 ?_
      refine G_bipush hC (v := 96) (by decide) dX11_ask_79 ?_
      refine G_iload hC 4 4 rfl dX11_ask_81 ?_
      refine G_iadd hC dX11_ask_83 ?_
      obtain ⟨g84, h⟩ := asn h
      refine G_iald hC 101 (by omega) e_mwarr g84 dX11_ask_84 ?_
      refine G_iadd hC dX11_ask_85 ?_
      refine G_goto hC 90 dX11_ask_86 (by decide) ?_
      refine G_lv [0, 1, 2, 3, 4] rfl ?_
      exact hB90 _ _ _ _ _ _ _ e_model e_mwarr e_mnamesarr e_mrefusedarr hfr h
  unfold f_X11_ask at h
  have hfr : ∀ j, (j < 105 ∨ 106 ≤ j) → en j = en j := fun _ _ => rfl
  refine G_aload_n hC 0 0 rfl rfl dX11_ask_0 ?_
  obtain ⟨q1, h1, h⟩ := bnd h
  refine G_cVi (st := []) hC _ 100 (by omega) (c_X11_findWhose  l (by omega) e_model e_mwarr e_mnamesarr h1) (cwV 0 hC.hts gX11_ask_X11_findWhose rfl rfl rfl (by decide +kernel) ⟨Nat.le_of_ble_eq_true rfl, Nat.le_of_ble_eq_true rfl⟩) e_model rfl rfl (Nat.le_of_ble_eq_true rfl) (Nat.zero_le _) (Nat.zero_le _) rfl dX11_ask_1 (fun r1 enx hw => ?_)
  obtain ⟨rfl, rfl⟩ := hw
  refine G_istore_n hC 1 [(1, .int q1), (0, .ref (ad 100))] rfl (by decide) rfl dX11_ask_4 ?_
  refine G_iload_n hC 1 0 rfl rfl dX11_ask_5 ?_
  refine G_if_ne hC 16 dX11_ask_6 (by decide) (fun c6 => ?_) (fun c6 => ?_)
  · have h := ifn c6 h
    refine G_iconst hC (v := (-1)) (by decide) dX11_ask_16 ?_
    refine G_istore_n hC 2 [(2, .int (-1 : Int32)), (1, .int q1), (0, .ref (ad 100))] rfl (by decide) rfl dX11_ask_17 ?_
    refine G_iconst hC (v := 0) (by decide) dX11_ask_18 ?_
    refine G_istore_n hC 3 [(3, .int (0 : Int32)), (2, .int (-1 : Int32)), (1, .int q1), (0, .ref (ad 100))] rfl (by decide) rfl dX11_ask_19 ?_
    refine G_iconst hC (v := 0) (by decide) dX11_ask_20 ?_
    refine G_istore hC 4 [(4, .int (0 : Int32)), (3, .int (0 : Int32)), (2, .int (-1 : Int32)), (1, .int q1), (0, .ref (ad 100))] (by decide) rfl dX11_ask_21 ?_
    refine G_lv [4, 3, 2, 1, 0] rfl ?_
    exact hL23 FU _ _ _ _ _ _ e_model e_mwarr e_mnamesarr e_mrefusedarr hfr h
  have h := ifp c6 h
  refine G_aload_n hC 0 1 rfl rfl dX11_ask_9 ?_
  refine G_bipush hC (v := (-3)) (by decide) dX11_ask_10 ?_
  obtain ⟨q12, h12, h⟩ := bnd h
  refine G_cVi (st := []) hC _ 100 (by omega) (c_X11_told  l (by omega) e_model e_mrefusedarr h12) (cwV 1 hC.hts gX11_ask_X11_told rfl rfl rfl (by decide +kernel) ⟨Nat.le_of_ble_eq_true rfl, Nat.le_of_ble_eq_true rfl⟩) e_model rfl rfl (Nat.le_of_ble_eq_true rfl) (Nat.zero_le _) (Nat.zero_le _) rfl dX11_ask_12 (fun r12 en2 hw => ?_)
  obtain ⟨rfl, e_mrefusedarr, fr⟩ := hw
  have e_model := (fr 100 (by omega)).trans e_model
  have e_mwarr := (fr 101 (by omega)).trans e_mwarr
  have e_mnamesarr := (fr 102 (by omega)).trans e_mnamesarr
  have hfr : ∀ j, (j < 105 ∨ 106 ≤ j) → en2 j = en j := fun j o0 => (fr j (by omega)).trans (hfr j o0)
  have h := Option.some.inj h
  subst h
  exact Kr _ _ _ _ (nar_i _) ⟨rfl, e_mrefusedarr, hfr⟩ dX11_ask_15
def f_X11_areTold_B67 (mw : Nat → Int32) (mnames : Nat → Int64) (rL2 : Int32 → Int32 → Option (Int32)) (rL14 : Int32 → Int32 → Int32 → Option (Int32)) (rL25 : Int32 → Int32 → Int32 → Int32 → Int32 → Option (Int32)) (x1 : Int32) (x2 : Int32) (x3 : Int32) (x5 : Int32) (s0 : Int32) : Option (Int32) := rL25 x1 x2 x3 s0 (x5 + (1 : Int32))
def f_X11_areTold_B66 (mw : Nat → Int32) (mnames : Nat → Int64) (rL2 : Int32 → Int32 → Option (Int32)) (rL14 : Int32 → Int32 → Int32 → Option (Int32)) (rL25 : Int32 → Int32 → Int32 → Int32 → Int32 → Option (Int32)) (x1 : Int32) (x2 : Int32) (x3 : Int32) (x5 : Int32) : Option (Int32) := f_X11_areTold_B67 mw mnames rL2 rL14 rL25 x1 x2 x3 x5 (0 : Int32)
def f_X11_areTold_B62 (mw : Nat → Int32) (mnames : Nat → Int64) (rL2 : Int32 → Int32 → Option (Int32)) (rL14 : Int32 → Int32 → Int32 → Option (Int32)) (rL25 : Int32 → Int32 → Int32 → Int32 → Int32 → Option (Int32)) (x1 : Int32) (x2 : Int32) (x3 : Int32) (x5 : Int32) : Option (Int32) := f_X11_areTold_B67 mw mnames rL2 rL14 rL25 x1 x2 x3 x5 (1 : Int32)
def f_X11_areTold_L25 (mw : Nat → Int32) (mnames : Nat → Int64) (rL2 : Int32 → Int32 → Option (Int32)) (rL14 : Int32 → Int32 → Int32 → Option (Int32)) : Nat → Int32 → Int32 → Int32 → Int32 → Int32 → Option (Int32)
  | 0, _, _, _, _, _ => none
  | fu + 1, x1, x2, x3, x4, x5 => if (5 : Int32) ≤ x5 then (if x4 = 0 then (rL14 x1 x2 (x3 + (1 : Int32))) else (some (0 : Int32))) else (if x4 = 0 then (f_X11_areTold_B66 mw mnames rL2 rL14 (f_X11_areTold_L25 mw mnames rL2 rL14 fu) x1 x2 x3 x5) else (Option.bind (f_X11_holds x1 x5) (fun q39 => if q39 = 0 then (f_X11_areTold_B62 mw mnames rL2 rL14 (f_X11_areTold_L25 mw mnames rL2 rL14 fu) x1 x2 x3 x5) else (Option.bind (f_X11_partOf mw mnames x2 x5) (fun q49 => Option.bind (f_X11_partOf mw mnames x3 x5) (fun q56 => if q49 = q56 then (f_X11_areTold_B62 mw mnames rL2 rL14 (f_X11_areTold_L25 mw mnames rL2 rL14 fu) x1 x2 x3 x5) else (f_X11_areTold_B66 mw mnames rL2 rL14 (f_X11_areTold_L25 mw mnames rL2 rL14 fu) x1 x2 x3 x5)))))))
def f_X11_areTold_L14 (mw : Nat → Int32) (mnames : Nat → Int64) (rL2 : Int32 → Int32 → Option (Int32)) : Nat → Int32 → Int32 → Int32 → Option (Int32)
  | 0, _, _, _ => none
  | fu + 1, x1, x2, x3 => if x2 ≤ x3 then (rL2 x1 (x2 + (1 : Int32))) else (f_X11_areTold_L25 mw mnames rL2 (f_X11_areTold_L14 mw mnames rL2 fu) FU x1 x2 x3 (1 : Int32) (0 : Int32))
def f_X11_areTold_L2 (mw : Nat → Int32) (mnames : Nat → Int64)  : Nat → Int32 → Int32 → Option (Int32)
  | 0, _, _ => none
  | fu + 1, x1, x2 => if (0 : Int32) < 0 ∨ 960 ≤ (0 : Int32).toNatClampNeg then none else (if mw (0 : Int32).toNatClampNeg ≤ x2 then (some (1 : Int32)) else (f_X11_areTold_L14 mw mnames (f_X11_areTold_L2 mw mnames fu) FU x1 x2 (0 : Int32)))
def f_X11_areTold (mw : Nat → Int32) (mnames : Nat → Int64) (x1 : Int32) : Option (Int32) := f_X11_areTold_L2 mw mnames FU x1 (0 : Int32)
set_option maxHeartbeats 4000000 in
set_option maxRecDepth 100000 in
theorem c_X11_areTold {D : va_G} {cs : Nat → ClassId} {sa : Nat → Nat} {n : Nat} {ad : Nat → Nat} {A : Nat → Prop} (l : Launch) {en : Nat → va_E}  {mw : Nat → Int32} {mnames : Nat → Int64} {mtexted : Int32} {mundo : Int32} {mabove : Int64} {mbelow : Int64} {mitems : Int32} {mat : Int32} {mfault : Int32} {mtakes : Int32} {mmisses : Int64} {mbest : Int64} {mh : Int64} {x1 : Int32}  {q : Int32} (hn : 110 ≤ n) (e_model : en 100 = .inr (8, [.ref (ad 101), .ref (ad 102), .ref (ad 103), .ref (ad 104), .int mtexted, .int mundo, .long mabove, .long mbelow, .ref (ad 105), .ref (ad 106), .ref (ad 107), .ref (ad 108), .int mitems, .int mat, .int mfault, .int mtakes, .long mmisses, .long mbest, .ref (ad 109), .long mh])) (e_mwarr : en 101 = .inl (cs 1, 960, .inl (mw))) (e_mnamesarr : en 102 = .inl (cs 2, 96, .inr (.inl (mnames)))) (h : f_X11_areTold mw mnames x1 = some q) : Met l yX11_areTold wsX11_areTold { frames := 3, cells := 0, slots := 0, locals := 71 } (va_Pc [.ref (ad 100), .int x1] (Wd D cs sa n ad A en)) (va_Qi (fun r u => q = r ∧ en = u) (Wd D cs sa n ad A) A) 0 0 A := by
  refine G_startI cX11_areTold 6 [(0, .ref (ad 100)), (1, .int x1)] (by decide) rfl (Nat.le_of_ble_eq_true rfl) rfl ?_
  intro p e s m args below meth c Q hC hnm Kr
  have inX11 : ∀ w ∈ u_ws RX11 TX11 20, w ∈ wsX11_areTold := by decide +kernel
  have m7 : Cond.fieldLink RX11 7 "TongueTipModel" "w" "[I" ∈ wsX11_areTold := by decide +kernel
  have hL2 : ∀ (fu2 : Nat), ∀ (x1 : Int32) (x2 : Int32), f_X11_areTold_L2 mw mnames fu2 x1 x2 = some q → G p l e ({ frames := 3, cells := 0, slots := 0, locals := 71 } : Room) s m args below meth c D n ad A 6 0 0 Q en 2 [(0, .ref (ad 100)), (1, .int x1), (2, .int x2)] [] := by
    intro fu2
    induction fu2 with
    | zero =>
      intro x1 x2 h
      rw [f_X11_areTold_L2] at h
      cases h
    | succ fu2 ih2 =>
      have hL14 : ∀ (fu14 : Nat), ∀ (x1 : Int32) (x2 : Int32) (x3 : Int32), f_X11_areTold_L14 mw mnames (f_X11_areTold_L2 mw mnames fu2) fu14 x1 x2 x3 = some q → G p l e ({ frames := 3, cells := 0, slots := 0, locals := 71 } : Room) s m args below meth c D n ad A 6 0 0 Q en 14 [(0, .ref (ad 100)), (1, .int x1), (2, .int x2), (3, .int x3)] [] := by
        intro fu14
        induction fu14 with
        | zero =>
          intro x1 x2 x3 h
          rw [f_X11_areTold_L14] at h
          cases h
        | succ fu14 ih14 =>
          have hL25 : ∀ (fu25 : Nat), ∀ (x1 : Int32) (x2 : Int32) (x3 : Int32) (x4 : Int32) (x5 : Int32), f_X11_areTold_L25 mw mnames (f_X11_areTold_L2 mw mnames fu2) (f_X11_areTold_L14 mw mnames (f_X11_areTold_L2 mw mnames fu2) fu14) fu25 x1 x2 x3 x4 x5 = some q → G p l e ({ frames := 3, cells := 0, slots := 0, locals := 71 } : Room) s m args below meth c D n ad A 6 0 0 Q en 25 [(0, .ref (ad 100)), (1, .int x1), (2, .int x2), (3, .int x3), (4, .int x4), (5, .int x5)] [] := by
            intro fu25
            induction fu25 with
            | zero =>
              intro x1 x2 x3 x4 x5 h
              rw [f_X11_areTold_L25] at h
              cases h
            | succ fu25 ih25 =>
              have hB67 : ∀ (x1 : Int32) (x2 : Int32) (x3 : Int32) (x5 : Int32) (s0 : Int32), f_X11_areTold_B67 mw mnames (f_X11_areTold_L2 mw mnames fu2) (f_X11_areTold_L14 mw mnames (f_X11_areTold_L2 mw mnames fu2) fu14) (f_X11_areTold_L25 mw mnames (f_X11_areTold_L2 mw mnames fu2) (f_X11_areTold_L14 mw mnames (f_X11_areTold_L2 mw mnames fu2) fu14) fu25) x1 x2 x3 x5 s0 = some q → G p l e ({ frames := 3, cells := 0, slots := 0, locals := 71 } : Room) s m args below meth c D n ad A 6 0 0 Q en 67 [(0, .ref (ad 100)), (1, .int x1), (2, .int x2), (3, .int x3), (5, .int x5)] [.int s0] := by
                intro x1 x2 x3 x5 s0 h
                unfold f_X11_areTold_B67 at h
                refine G_istore hC 4 [(4, .int s0), (0, .ref (ad 100)), (1, .int x1), (2, .int x2), (3, .int x3), (5, .int x5)] (by decide) rfl dX11_areTold_67 ?_
                refine G_iinc hC 5 5 [(5, .int (x5 + (1 : Int32))), (4, .int s0), (0, .ref (ad 100)), (1, .int x1), (2, .int x2), (3, .int x3)] rfl rfl (by decide) rfl dX11_areTold_69 ?_
                refine G_goto hC 25 dX11_areTold_72 (by decide) ?_
                refine G_lv [2, 3, 4, 5, 1, 0] rfl ?_
                exact ih25 _ _ _ _ _ h
              have hB66 : ∀ (x1 : Int32) (x2 : Int32) (x3 : Int32) (x5 : Int32), f_X11_areTold_B66 mw mnames (f_X11_areTold_L2 mw mnames fu2) (f_X11_areTold_L14 mw mnames (f_X11_areTold_L2 mw mnames fu2) fu14) (f_X11_areTold_L25 mw mnames (f_X11_areTold_L2 mw mnames fu2) (f_X11_areTold_L14 mw mnames (f_X11_areTold_L2 mw mnames fu2) fu14) fu25) x1 x2 x3 x5 = some q → G p l e ({ frames := 3, cells := 0, slots := 0, locals := 71 } : Room) s m args below meth c D n ad A 6 0 0 Q en 66 [(0, .ref (ad 100)), (1, .int x1), (2, .int x2), (3, .int x3), (5, .int x5)] [] := by
                intro x1 x2 x3 x5 h
                unfold f_X11_areTold_B66 at h
                refine G_iconst hC (v := 0) (by decide) dX11_areTold_66 ?_
                refine G_lv [0, 1, 2, 3, 4] rfl ?_
                exact hB67 _ _ _ _ _ h
              have hB62 : ∀ (x1 : Int32) (x2 : Int32) (x3 : Int32) (x5 : Int32), f_X11_areTold_B62 mw mnames (f_X11_areTold_L2 mw mnames fu2) (f_X11_areTold_L14 mw mnames (f_X11_areTold_L2 mw mnames fu2) fu14) (f_X11_areTold_L25 mw mnames (f_X11_areTold_L2 mw mnames fu2) (f_X11_areTold_L14 mw mnames (f_X11_areTold_L2 mw mnames fu2) fu14) fu25) x1 x2 x3 x5 = some q → G p l e ({ frames := 3, cells := 0, slots := 0, locals := 71 } : Room) s m args below meth c D n ad A 6 0 0 Q en 62 [(0, .ref (ad 100)), (1, .int x1), (2, .int x2), (3, .int x3), (5, .int x5)] [] := by
                intro x1 x2 x3 x5 h
                unfold f_X11_areTold_B62 at h
                refine G_iconst hC (v := 1) (by decide) dX11_areTold_62 ?_
                refine G_goto hC 67 dX11_areTold_63 (by decide) ?_
                refine G_lv [0, 1, 2, 3, 4] rfl ?_
                exact hB67 _ _ _ _ _ h
              intro x1 x2 x3 x4 x5 h
              rw [f_X11_areTold_L25] at h
              refine G_iload hC 5 5 rfl dX11_areTold_25 ?_
              refine G_iconst hC (v := 5) (by decide) dX11_areTold_27 ?_
              refine G_icmp_ge hC 75 dX11_areTold_28 (by decide) (fun c28 => ?_) (fun c28 => ?_)
              · have h := ifp c28 h
                refine G_iload hC 4 4 rfl dX11_areTold_75 ?_
                refine G_if_eq hC 82 dX11_areTold_77 (by decide) (fun c77 => ?_) (fun c77 => ?_)
                · have h := ifp c77 h
                  refine G_iinc hC 3 3 [(3, .int (x3 + (1 : Int32))), (0, .ref (ad 100)), (1, .int x1), (2, .int x2), (4, .int x4), (5, .int x5)] rfl rfl (by decide) rfl dX11_areTold_82 ?_
                  refine G_goto hC 14 dX11_areTold_85 (by decide) ?_
                  refine G_lv [1, 2, 3, 0] rfl ?_
                  exact ih14 _ _ _ h
                have h := ifn c77 h
                refine G_iconst hC (v := 0) (by decide) dX11_areTold_80 ?_
                have h := Option.some.inj h
                subst h
                exact Kr _ _ _ _ (by decide) ⟨rfl, rfl⟩ dX11_areTold_81
              have h := ifn c28 h
              refine G_iload hC 4 4 rfl dX11_areTold_31 ?_
              refine G_if_eq hC 66 dX11_areTold_33 (by decide) (fun c33 => ?_) (fun c33 => ?_)
              · have h := ifp c33 h
                refine G_lv [0, 1, 2, 3, 5] rfl ?_
                exact hB66 _ _ _ _ h
              have h := ifn c33 h
              refine G_iload_n hC 1 1 rfl rfl dX11_areTold_36 ?_
              refine G_iload hC 5 5 rfl dX11_areTold_37 ?_
              obtain ⟨q39, h39, h⟩ := bnd h
              refine G_cSi (st := []) hC _ (c_X11_holds  l  h39) (va_cwS 2 hC.hts gX11_areTold_X11_holds rfl rfl rfl (by decide +kernel) ⟨Nat.le_of_ble_eq_true rfl, Nat.le_of_ble_eq_true rfl⟩) rfl (Nat.le_of_ble_eq_true rfl) (Nat.zero_le _) (Nat.zero_le _) rfl dX11_areTold_39 (fun r39 enx hw => ?_)
              obtain ⟨rfl, rfl⟩ := hw
              refine G_if_eq hC 62 dX11_areTold_42 (by decide) (fun c42 => ?_) (fun c42 => ?_)
              · have h := ifp c42 h
                refine G_lv [0, 1, 2, 3, 5] rfl ?_
                exact hB62 _ _ _ _ h
              have h := ifn c42 h
              refine G_aload_n hC 0 0 rfl rfl dX11_areTold_45 ?_
              refine G_iload_n hC 2 2 rfl rfl dX11_areTold_46 ?_
              refine G_iload hC 5 5 rfl dX11_areTold_47 ?_
              obtain ⟨q49, h49, h⟩ := bnd h
              refine G_cVi (st := []) hC _ 100 (by omega) (c_X11_partOf  l (by omega) e_model e_mwarr e_mnamesarr h49) (cwV 2 hC.hts gX11_areTold_X11_partOf rfl rfl rfl (by decide +kernel) ⟨Nat.le_of_ble_eq_true rfl, Nat.le_of_ble_eq_true rfl⟩) e_model rfl rfl (Nat.le_of_ble_eq_true rfl) (Nat.zero_le _) (Nat.zero_le _) rfl dX11_areTold_49 (fun r49 enx hw => ?_)
              obtain ⟨rfl, rfl⟩ := hw
              refine G_aload_n hC 0 0 rfl rfl dX11_areTold_52 ?_
              refine G_iload_n hC 3 3 rfl rfl dX11_areTold_53 ?_
              refine G_iload hC 5 5 rfl dX11_areTold_54 ?_
              obtain ⟨q56, h56, h⟩ := bnd h
              refine G_cVi (st := [.int q49]) hC _ 100 (by omega) (c_X11_partOf  l (by omega) e_model e_mwarr e_mnamesarr h56) (cwV 2 hC.hts gX11_areTold_X11_partOf rfl rfl rfl (by decide +kernel) ⟨Nat.le_of_ble_eq_true rfl, Nat.le_of_ble_eq_true rfl⟩) e_model rfl rfl (Nat.le_of_ble_eq_true rfl) (Nat.zero_le _) (Nat.zero_le _) rfl dX11_areTold_56 (fun r56 enx hw => ?_)
              obtain ⟨rfl, rfl⟩ := hw
              refine G_icmp_ne hC 66 dX11_areTold_59 (by decide) (fun c59 => ?_) (fun c59 => ?_)
              · have h := ifn c59 h
                refine G_lv [0, 1, 2, 3, 5] rfl ?_
                exact hB66 _ _ _ _ h
              have h := ifp c59 h
              refine G_lv [0, 1, 2, 3, 5] rfl ?_
              exact hB62 _ _ _ _ h
          intro x1 x2 x3 h
          rw [f_X11_areTold_L14] at h
          refine G_iload_n hC 3 3 rfl rfl dX11_areTold_14 ?_
          refine G_iload_n hC 2 2 rfl rfl dX11_areTold_15 ?_
          refine G_icmp_ge hC 88 dX11_areTold_16 (by decide) (fun c16 => ?_) (fun c16 => ?_)
          · have h := ifp c16 h
            refine G_iinc hC 2 2 [(2, .int (x2 + (1 : Int32))), (0, .ref (ad 100)), (1, .int x1), (3, .int x3)] rfl rfl (by decide) rfl dX11_areTold_88 ?_
            refine G_goto hC 2 dX11_areTold_91 (by decide) ?_
            refine G_lv [1, 2, 0] rfl ?_
            exact ih2 _ _ h
          have h := ifn c16 h
          refine G_iconst hC (v := 1) (by decide) dX11_areTold_19 ?_
          refine G_istore hC 4 [(4, .int (1 : Int32)), (0, .ref (ad 100)), (1, .int x1), (2, .int x2), (3, .int x3)] (by decide) rfl dX11_areTold_20 ?_
          refine G_iconst hC (v := 0) (by decide) dX11_areTold_22 ?_
          refine G_istore hC 5 [(5, .int (0 : Int32)), (4, .int (1 : Int32)), (0, .ref (ad 100)), (1, .int x1), (2, .int x2), (3, .int x3)] (by decide) rfl dX11_areTold_23 ?_
          refine G_lv [2, 3, 4, 5, 1, 0] rfl ?_
          exact hL25 FU _ _ _ _ _ h
      intro x1 x2 h
      rw [f_X11_areTold_L2] at h
      refine G_iload_n hC 2 2 rfl rfl dX11_areTold_2 ?_
      refine G_aload_n hC 0 0 rfl rfl dX11_areTold_3 ?_
      refine G_get hC inX11 100 (by omega) (v := .ref (ad 101)) e_model rfl 0 (by decide) m7 rfl rfl dX11_areTold_4 ?_
      refine G_iconst hC (v := 0) (by decide) dX11_areTold_7 ?_
      obtain ⟨g8, h⟩ := asn h
      refine G_iald hC 101 (by omega) e_mwarr g8 dX11_areTold_8 ?_
      refine G_icmp_ge hC 94 dX11_areTold_9 (by decide) (fun c9 => ?_) (fun c9 => ?_)
      · have h := ifp c9 h
        refine G_iconst hC (v := 1) (by decide) dX11_areTold_94 ?_
        have h := Option.some.inj h
        subst h
        exact Kr _ _ _ _ (by decide) ⟨rfl, rfl⟩ dX11_areTold_95
      have h := ifn c9 h
      refine G_iconst hC (v := 0) (by decide) dX11_areTold_12 ?_
      refine G_istore_n hC 3 [(3, .int (0 : Int32)), (0, .ref (ad 100)), (1, .int x1), (2, .int x2)] rfl (by decide) rfl dX11_areTold_13 ?_
      refine G_lv [1, 2, 3, 0] rfl ?_
      exact hL14 FU _ _ _ h
  unfold f_X11_areTold at h
  refine G_iconst hC (v := 0) (by decide) dX11_areTold_0 ?_
  refine G_istore_n hC 2 [(2, .int (0 : Int32)), (0, .ref (ad 100)), (1, .int x1)] rfl (by decide) rfl dX11_areTold_1 ?_
  refine G_lv [1, 2, 0] rfl ?_
  exact hL2 FU _ _ h
def f_X11_index_B39 (mw : Nat → Int32) (mnames : Nat → Int64) (rL4 : Int32 → Int32 → Option (Int32)) (x2 : Int32) (s0 : Int32) : Option (Int32) := rL4 s0 (x2 + (1 : Int32))
def f_X11_index_B38 (mw : Nat → Int32) (mnames : Nat → Int64) (rL4 : Int32 → Int32 → Option (Int32)) (x1 : Int32) (x2 : Int32) : Option (Int32) := f_X11_index_B39 mw mnames rL4 x2 x1
def f_X11_index_B26 (mw : Nat → Int32) (mnames : Nat → Int64) (rL4 : Int32 → Int32 → Option (Int32)) (x1 : Int32) (x2 : Int32) : Option (Int32) := Option.bind (f_X11_areTold mw mnames x2) (fun q28 => if q28 = 0 then (f_X11_index_B38 mw mnames rL4 x1 x2) else (f_X11_index_B39 mw mnames rL4 x2 x2))
def f_X11_index_L4 (mw : Nat → Int32) (mnames : Nat → Int64)  : Nat → Int32 → Int32 → Option (Int32)
  | 0, _, _ => none
  | fu + 1, x1, x2 => if (32 : Int32) ≤ x2 then (some x1) else (if x1 = (-1 : Int32) then (f_X11_index_B26 mw mnames (f_X11_index_L4 mw mnames fu) x1 x2) else (Option.bind (f_X11_ones x2) (fun q16 => Option.bind (f_X11_ones x1) (fun q20 => if q20 ≤ q16 then (f_X11_index_B38 mw mnames (f_X11_index_L4 mw mnames fu) x1 x2) else (f_X11_index_B26 mw mnames (f_X11_index_L4 mw mnames fu) x1 x2)))))
def f_X11_index (mw : Nat → Int32) (mnames : Nat → Int64)  : Option (Int32) := f_X11_index_L4 mw mnames FU (-1 : Int32) (0 : Int32)
set_option maxHeartbeats 4000000 in
set_option maxRecDepth 100000 in
theorem c_X11_index {D : va_G} {cs : Nat → ClassId} {sa : Nat → Nat} {n : Nat} {ad : Nat → Nat} {A : Nat → Prop} (l : Launch) {en : Nat → va_E}  {mw : Nat → Int32} {mnames : Nat → Int64} {mtexted : Int32} {mundo : Int32} {mabove : Int64} {mbelow : Int64} {mitems : Int32} {mat : Int32} {mfault : Int32} {mtakes : Int32} {mmisses : Int64} {mbest : Int64} {mh : Int64}   {q : Int32} (hn : 110 ≤ n) (e_model : en 100 = .inr (8, [.ref (ad 101), .ref (ad 102), .ref (ad 103), .ref (ad 104), .int mtexted, .int mundo, .long mabove, .long mbelow, .ref (ad 105), .ref (ad 106), .ref (ad 107), .ref (ad 108), .int mitems, .int mat, .int mfault, .int mtakes, .long mmisses, .long mbest, .ref (ad 109), .long mh])) (e_mwarr : en 101 = .inl (cs 1, 960, .inl (mw))) (e_mnamesarr : en 102 = .inl (cs 2, 96, .inr (.inl (mnames)))) (h : f_X11_index mw mnames = some q) : Met l yX11_index wsX11_index { frames := 4, cells := 0, slots := 0, locals := 96 } (va_Pc [.ref (ad 100)] (Wd D cs sa n ad A en)) (va_Qi (fun r u => q = r ∧ en = u) (Wd D cs sa n ad A) A) 0 0 A := by
  refine G_startI cX11_index 3 [(0, .ref (ad 100))] (by decide) rfl (Nat.le_of_ble_eq_true rfl) rfl ?_
  intro p e s m args below meth c Q hC hnm Kr
  have hL4 : ∀ (fu4 : Nat), ∀ (x1 : Int32) (x2 : Int32), f_X11_index_L4 mw mnames fu4 x1 x2 = some q → G p l e ({ frames := 4, cells := 0, slots := 0, locals := 96 } : Room) s m args below meth c D n ad A 3 0 0 Q en 4 [(0, .ref (ad 100)), (1, .int x1), (2, .int x2)] [] := by
    intro fu4
    induction fu4 with
    | zero =>
      intro x1 x2 h
      rw [f_X11_index_L4] at h
      cases h
    | succ fu4 ih4 =>
      have hB39 : ∀ (x2 : Int32) (s0 : Int32), f_X11_index_B39 mw mnames (f_X11_index_L4 mw mnames fu4) x2 s0 = some q → G p l e ({ frames := 4, cells := 0, slots := 0, locals := 96 } : Room) s m args below meth c D n ad A 3 0 0 Q en 39 [(0, .ref (ad 100)), (2, .int x2)] [.int s0] := by
        intro x2 s0 h
        unfold f_X11_index_B39 at h
        refine G_istore_n hC 1 [(1, .int s0), (0, .ref (ad 100)), (2, .int x2)] rfl (by decide) rfl dX11_index_39 ?_
        refine G_iinc hC 2 2 [(2, .int (x2 + (1 : Int32))), (1, .int s0), (0, .ref (ad 100))] rfl rfl (by decide) rfl dX11_index_40 ?_
        refine G_goto hC 4 dX11_index_43 (by decide) ?_
        refine G_lv [2, 1, 0] rfl ?_
        exact ih4 _ _ h
      have hB38 : ∀ (x1 : Int32) (x2 : Int32), f_X11_index_B38 mw mnames (f_X11_index_L4 mw mnames fu4) x1 x2 = some q → G p l e ({ frames := 4, cells := 0, slots := 0, locals := 96 } : Room) s m args below meth c D n ad A 3 0 0 Q en 38 [(0, .ref (ad 100)), (1, .int x1), (2, .int x2)] [] := by
        intro x1 x2 h
        unfold f_X11_index_B38 at h
        refine G_iload_n hC 1 1 rfl rfl dX11_index_38 ?_
        refine G_lv [0, 2] rfl ?_
        exact hB39 _ _ h
      have hB26 : ∀ (x1 : Int32) (x2 : Int32), f_X11_index_B26 mw mnames (f_X11_index_L4 mw mnames fu4) x1 x2 = some q → G p l e ({ frames := 4, cells := 0, slots := 0, locals := 96 } : Room) s m args below meth c D n ad A 3 0 0 Q en 26 [(0, .ref (ad 100)), (1, .int x1), (2, .int x2)] [] := by
        intro x1 x2 h
        unfold f_X11_index_B26 at h
        refine G_aload_n hC 0 0 rfl rfl dX11_index_26 ?_
        refine G_iload_n hC 2 2 rfl rfl dX11_index_27 ?_
        obtain ⟨q28, h28, h⟩ := bnd h
        refine G_cVi (st := []) hC _ 100 (by omega) (c_X11_areTold  l (by omega) e_model e_mwarr e_mnamesarr h28) (cwV 1 hC.hts gX11_index_X11_areTold rfl rfl rfl (by decide +kernel) ⟨Nat.le_of_ble_eq_true rfl, Nat.le_of_ble_eq_true rfl⟩) e_model rfl rfl (Nat.le_of_ble_eq_true rfl) (Nat.zero_le _) (Nat.zero_le _) rfl dX11_index_28 (fun r28 enx hw => ?_)
        obtain ⟨rfl, rfl⟩ := hw
        refine G_if_eq hC 38 dX11_index_31 (by decide) (fun c31 => ?_) (fun c31 => ?_)
        · have h := ifp c31 h
          refine G_lv [0, 1, 2] rfl ?_
          exact hB38 _ _ h
        have h := ifn c31 h
        refine G_iload_n hC 2 2 rfl rfl dX11_index_34 ?_
        refine G_goto hC 39 dX11_index_35 (by decide) ?_
        refine G_lv [0, 2] rfl ?_
        exact hB39 _ _ h
      intro x1 x2 h
      rw [f_X11_index_L4] at h
      refine G_iload_n hC 2 2 rfl rfl dX11_index_4 ?_
      refine G_bipush hC (v := 32) (by decide) dX11_index_5 ?_
      refine G_icmp_ge hC 46 dX11_index_7 (by decide) (fun c7 => ?_) (fun c7 => ?_)
      · have h := ifp c7 h
        refine G_iload_n hC 1 1 rfl rfl dX11_index_46 ?_
        have h := Option.some.inj h
        subst h
        exact Kr _ _ _ _ (nar_i _) ⟨rfl, rfl⟩ dX11_index_47
      have h := ifn c7 h
      refine G_iload_n hC 1 1 rfl rfl dX11_index_10 ?_
      refine G_iconst hC (v := (-1)) (by decide) dX11_index_11 ?_
      refine G_icmp_eq hC 26 dX11_index_12 (by decide) (fun c12 => ?_) (fun c12 => ?_)
      · have h := ifp c12 h
        refine G_lv [0, 1, 2] rfl ?_
        exact hB26 _ _ h
      have h := ifn c12 h
      refine G_iload_n hC 2 2 rfl rfl dX11_index_15 ?_
      obtain ⟨q16, h16, h⟩ := bnd h
      refine G_cSi (st := []) hC _ (c_X11_ones  l  h16) (va_cwS 1 hC.hts gX11_index_X11_ones rfl rfl rfl (by decide +kernel) ⟨Nat.le_of_ble_eq_true rfl, Nat.le_of_ble_eq_true rfl⟩) rfl (Nat.le_of_ble_eq_true rfl) (Nat.zero_le _) (Nat.zero_le _) rfl dX11_index_16 (fun r16 enx hw => ?_)
      obtain ⟨rfl, rfl⟩ := hw
      refine G_iload_n hC 1 1 rfl rfl dX11_index_19 ?_
      obtain ⟨q20, h20, h⟩ := bnd h
      refine G_cSi (st := [.int q16]) hC _ (c_X11_ones  l  h20) (va_cwS 1 hC.hts gX11_index_X11_ones rfl rfl rfl (by decide +kernel) ⟨Nat.le_of_ble_eq_true rfl, Nat.le_of_ble_eq_true rfl⟩) rfl (Nat.le_of_ble_eq_true rfl) (Nat.zero_le _) (Nat.zero_le _) rfl dX11_index_20 (fun r20 enx hw => ?_)
      obtain ⟨rfl, rfl⟩ := hw
      refine G_icmp_ge hC 38 dX11_index_23 (by decide) (fun c23 => ?_) (fun c23 => ?_)
      · have h := ifp c23 h
        refine G_lv [0, 1, 2] rfl ?_
        exact hB38 _ _ h
      have h := ifn c23 h
      refine G_lv [0, 1, 2] rfl ?_
      exact hB26 _ _ h
  unfold f_X11_index at h
  refine G_iconst hC (v := (-1)) (by decide) dX11_index_0 ?_
  refine G_istore_n hC 1 [(1, .int (-1 : Int32)), (0, .ref (ad 100))] rfl (by decide) rfl dX11_index_1 ?_
  refine G_iconst hC (v := 0) (by decide) dX11_index_2 ?_
  refine G_istore_n hC 2 [(2, .int (0 : Int32)), (1, .int (-1 : Int32)), (0, .ref (ad 100))] rfl (by decide) rfl dX11_index_3 ?_
  refine G_lv [2, 1, 0] rfl ?_
  exact hL4 FU _ _ h
def f_X11_areTakenFor_B72 (mnames : Nat → Int64) (rL33 : Int32 → Int32 → Int32 → Int32 → Int32 → Int32 → Option (Int32)) (x1 : Int32) (x2 : Int32) (x3 : Int32) (x4 : Int32) (x6 : Int32) (s0 : Int32) (s1 : Int32) : Option (Int32) := rL33 x1 x2 x3 x4 (s0 + s1) (x6 + (1 : Int32))
def f_X11_areTakenFor_L33 (mnames : Nat → Int64)  : Nat → Int32 → Int32 → Int32 → Int32 → Int32 → Int32 → Option (Int32)
  | 0, _, _, _, _, _, _ => none
  | fu + 1, x1, x2, x3, x4, x5, x6 => if x4 ≤ x6 then (if x3 < x5 then (some (0 : Int32)) else (some (1 : Int32))) else (if x1 < 0 ∨ 96 ≤ x1.toNatClampNeg then none else (Option.bind (f_X11_letterOf (mnames x1.toNatClampNeg) x6) (fun q50 => if x2 < 0 ∨ 96 ≤ x2.toNatClampNeg then none else (Option.bind (f_X11_letterOf (mnames x2.toNatClampNeg) x6) (fun q61 => if q50 = q61 then (f_X11_areTakenFor_B72 mnames (f_X11_areTakenFor_L33 mnames fu) x1 x2 x3 x4 x6 x5 (0 : Int32)) else (f_X11_areTakenFor_B72 mnames (f_X11_areTakenFor_L33 mnames fu) x1 x2 x3 x4 x6 x5 (1 : Int32)))))))
def f_X11_areTakenFor (mnames : Nat → Int64) (x1 : Int32) (x2 : Int32) (x3 : Int32) : Option (Int32) := if x1 < 0 ∨ 96 ≤ x1.toNatClampNeg then none else (Option.bind (f_X11_lettersOf (mnames x1.toNatClampNeg)) (fun q6 => if x2 < 0 ∨ 96 ≤ x2.toNatClampNeg then none else (Option.bind (f_X11_lettersOf (mnames x2.toNatClampNeg)) (fun q19 => if q6 = q19 then (f_X11_areTakenFor_L33 mnames FU x1 x2 x3 q6 (0 : Int32) (0 : Int32)) else (some (0 : Int32))))))
set_option maxHeartbeats 4000000 in
set_option maxRecDepth 100000 in
theorem c_X11_areTakenFor {D : va_G} {cs : Nat → ClassId} {sa : Nat → Nat} {n : Nat} {ad : Nat → Nat} {A : Nat → Prop} (l : Launch) {en : Nat → va_E}  {mnames : Nat → Int64} {mtexted : Int32} {mundo : Int32} {mabove : Int64} {mbelow : Int64} {mitems : Int32} {mat : Int32} {mfault : Int32} {mtakes : Int32} {mmisses : Int64} {mbest : Int64} {mh : Int64} {x1 : Int32} {x2 : Int32} {x3 : Int32}  {q : Int32} (hn : 110 ≤ n) (e_model : en 100 = .inr (8, [.ref (ad 101), .ref (ad 102), .ref (ad 103), .ref (ad 104), .int mtexted, .int mundo, .long mabove, .long mbelow, .ref (ad 105), .ref (ad 106), .ref (ad 107), .ref (ad 108), .int mitems, .int mat, .int mfault, .int mtakes, .long mmisses, .long mbest, .ref (ad 109), .long mh])) (e_mnamesarr : en 102 = .inl (cs 2, 96, .inr (.inl (mnames)))) (h : f_X11_areTakenFor mnames x1 x2 x3 = some q) : Met l yX11_areTakenFor wsX11_areTakenFor { frames := 2, cells := 0, slots := 0, locals := 49 } (va_Pc [.ref (ad 100), .int x1, .int x2, .int x3] (Wd D cs sa n ad A en)) (va_Qi (fun r u => q = r ∧ en = u) (Wd D cs sa n ad A) A) 0 0 A := by
  refine G_startI cX11_areTakenFor 7 [(0, .ref (ad 100)), (1, .int x1), (2, .int x2), (3, .int x3)] (by decide) rfl (Nat.le_of_ble_eq_true rfl) rfl ?_
  intro p e s m args below meth c Q hC hnm Kr
  have inX11 : ∀ w ∈ u_ws RX11 TX11 20, w ∈ wsX11_areTakenFor := by decide +kernel
  have m13 : Cond.fieldLink RX11 13 "TongueTipModel" "names" "[J" ∈ wsX11_areTakenFor := by decide +kernel
  have hL33 : ∀ (fu33 : Nat), ∀ (x1 : Int32) (x2 : Int32) (x3 : Int32) (x4 : Int32) (x5 : Int32) (x6 : Int32), f_X11_areTakenFor_L33 mnames fu33 x1 x2 x3 x4 x5 x6 = some q → G p l e ({ frames := 2, cells := 0, slots := 0, locals := 49 } : Room) s m args below meth c D n ad A 7 0 0 Q en 33 [(0, .ref (ad 100)), (1, .int x1), (2, .int x2), (3, .int x3), (4, .int x4), (5, .int x5), (6, .int x6)] [] := by
    intro fu33
    induction fu33 with
    | zero =>
      intro x1 x2 x3 x4 x5 x6 h
      rw [f_X11_areTakenFor_L33] at h
      cases h
    | succ fu33 ih33 =>
      have hB72 : ∀ (x1 : Int32) (x2 : Int32) (x3 : Int32) (x4 : Int32) (x6 : Int32) (s0 : Int32) (s1 : Int32), f_X11_areTakenFor_B72 mnames (f_X11_areTakenFor_L33 mnames fu33) x1 x2 x3 x4 x6 s0 s1 = some q → G p l e ({ frames := 2, cells := 0, slots := 0, locals := 49 } : Room) s m args below meth c D n ad A 7 0 0 Q en 72 [(0, .ref (ad 100)), (1, .int x1), (2, .int x2), (3, .int x3), (4, .int x4), (6, .int x6)] [.int s1, .int s0] := by
        intro x1 x2 x3 x4 x6 s0 s1 h
        unfold f_X11_areTakenFor_B72 at h
        refine G_iadd hC dX11_areTakenFor_72 ?_
        refine G_istore hC 5 [(5, .int (s0 + s1)), (0, .ref (ad 100)), (1, .int x1), (2, .int x2), (3, .int x3), (4, .int x4), (6, .int x6)] (by decide) rfl dX11_areTakenFor_73 ?_
        refine G_iinc hC 6 6 [(6, .int (x6 + (1 : Int32))), (5, .int (s0 + s1)), (0, .ref (ad 100)), (1, .int x1), (2, .int x2), (3, .int x3), (4, .int x4)] rfl rfl (by decide) rfl dX11_areTakenFor_75 ?_
        refine G_goto hC 33 dX11_areTakenFor_78 (by decide) ?_
        refine G_lv [2, 3, 4, 5, 6, 1, 0] rfl ?_
        exact ih33 _ _ _ _ _ _ h
      intro x1 x2 x3 x4 x5 x6 h
      rw [f_X11_areTakenFor_L33] at h
      refine G_iload hC 6 6 rfl dX11_areTakenFor_33 ?_
      refine G_iload hC 4 4 rfl dX11_areTakenFor_35 ?_
      refine G_icmp_ge hC 81 dX11_areTakenFor_37 (by decide) (fun c37 => ?_) (fun c37 => ?_)
      · have h := ifp c37 h
        refine G_iload hC 5 5 rfl dX11_areTakenFor_81 ?_
        refine G_iload_n hC 3 3 rfl rfl dX11_areTakenFor_83 ?_
        refine G_icmp_gt hC 91 dX11_areTakenFor_84 (by decide) (fun c84 => ?_) (fun c84 => ?_)
        · have h := ifp c84 h
          refine G_iconst hC (v := 0) (by decide) dX11_areTakenFor_91 ?_
          have h := Option.some.inj h
          subst h
          exact Kr _ _ _ _ (by decide) ⟨rfl, rfl⟩ dX11_areTakenFor_92
        have h := ifn c84 h
        refine G_iconst hC (v := 1) (by decide) dX11_areTakenFor_87 ?_
        refine G_goto hC 92 dX11_areTakenFor_88 (by decide) ?_
        have h := Option.some.inj h
        subst h
        exact Kr _ _ _ _ (by decide) ⟨rfl, rfl⟩ dX11_areTakenFor_92
      have h := ifn c37 h
      refine G_iload hC 5 5 rfl dX11_areTakenFor_40 ?_
      refine G_aload_n hC 0 0 rfl rfl dX11_areTakenFor_42 ?_
      refine G_get hC inX11 100 (by omega) (v := .ref (ad 102)) e_model rfl 1 (by decide) m13 rfl rfl dX11_areTakenFor_43 ?_
      refine G_iload_n hC 1 1 rfl rfl dX11_areTakenFor_46 ?_
      obtain ⟨g47, h⟩ := asn h
      refine G_lald hC 102 (by omega) e_mnamesarr g47 dX11_areTakenFor_47 ?_
      refine G_iload hC 6 6 rfl dX11_areTakenFor_48 ?_
      obtain ⟨q50, h50, h⟩ := bnd h
      refine G_cSi (st := [.int x5]) hC _ (c_X11_letterOf  l  h50) (va_cwS 2 hC.hts gX11_areTakenFor_X11_letterOf rfl rfl rfl (by decide +kernel) ⟨Nat.le_of_ble_eq_true rfl, Nat.le_of_ble_eq_true rfl⟩) rfl (Nat.le_of_ble_eq_true rfl) (Nat.zero_le _) (Nat.zero_le _) rfl dX11_areTakenFor_50 (fun r50 enx hw => ?_)
      obtain ⟨rfl, rfl⟩ := hw
      refine G_aload_n hC 0 0 rfl rfl dX11_areTakenFor_53 ?_
      refine G_get hC inX11 100 (by omega) (v := .ref (ad 102)) e_model rfl 1 (by decide) m13 rfl rfl dX11_areTakenFor_54 ?_
      refine G_iload_n hC 2 2 rfl rfl dX11_areTakenFor_57 ?_
      obtain ⟨g58, h⟩ := asn h
      refine G_lald hC 102 (by omega) e_mnamesarr g58 dX11_areTakenFor_58 ?_
      refine G_iload hC 6 6 rfl dX11_areTakenFor_59 ?_
      obtain ⟨q61, h61, h⟩ := bnd h
      refine G_cSi (st := [.int q50, .int x5]) hC _ (c_X11_letterOf  l  h61) (va_cwS 2 hC.hts gX11_areTakenFor_X11_letterOf rfl rfl rfl (by decide +kernel) ⟨Nat.le_of_ble_eq_true rfl, Nat.le_of_ble_eq_true rfl⟩) rfl (Nat.le_of_ble_eq_true rfl) (Nat.zero_le _) (Nat.zero_le _) rfl dX11_areTakenFor_61 (fun r61 enx hw => ?_)
      obtain ⟨rfl, rfl⟩ := hw
      refine G_icmp_ne hC 71 dX11_areTakenFor_64 (by decide) (fun c64 => ?_) (fun c64 => ?_)
      · have h := ifn c64 h
        refine G_iconst hC (v := 1) (by decide) dX11_areTakenFor_71 ?_
        refine G_lv [0, 1, 2, 3, 4, 6] rfl ?_
        exact hB72 _ _ _ _ _ _ _ h
      have h := ifp c64 h
      refine G_iconst hC (v := 0) (by decide) dX11_areTakenFor_67 ?_
      refine G_goto hC 72 dX11_areTakenFor_68 (by decide) ?_
      refine G_lv [0, 1, 2, 3, 4, 6] rfl ?_
      exact hB72 _ _ _ _ _ _ _ h
  unfold f_X11_areTakenFor at h
  refine G_aload_n hC 0 0 rfl rfl dX11_areTakenFor_0 ?_
  refine G_get hC inX11 100 (by omega) (v := .ref (ad 102)) e_model rfl 1 (by decide) m13 rfl rfl dX11_areTakenFor_1 ?_
  refine G_iload_n hC 1 1 rfl rfl dX11_areTakenFor_4 ?_
  obtain ⟨g5, h⟩ := asn h
  refine G_lald hC 102 (by omega) e_mnamesarr g5 dX11_areTakenFor_5 ?_
  obtain ⟨q6, h6, h⟩ := bnd h
  refine G_cSi (st := []) hC _ (c_X11_lettersOf  l  h6) (va_cwS 1 hC.hts gX11_areTakenFor_X11_lettersOf rfl rfl rfl (by decide +kernel) ⟨Nat.le_of_ble_eq_true rfl, Nat.le_of_ble_eq_true rfl⟩) rfl (Nat.le_of_ble_eq_true rfl) (Nat.zero_le _) (Nat.zero_le _) rfl dX11_areTakenFor_6 (fun r6 enx hw => ?_)
  obtain ⟨rfl, rfl⟩ := hw
  refine G_istore hC 4 [(4, .int q6), (0, .ref (ad 100)), (1, .int x1), (2, .int x2), (3, .int x3)] (by decide) rfl dX11_areTakenFor_9 ?_
  refine G_iload hC 4 0 rfl dX11_areTakenFor_11 ?_
  refine G_aload_n hC 0 1 rfl rfl dX11_areTakenFor_13 ?_
  refine G_get hC inX11 100 (by omega) (v := .ref (ad 102)) e_model rfl 1 (by decide) m13 rfl rfl dX11_areTakenFor_14 ?_
  refine G_iload_n hC 2 3 rfl rfl dX11_areTakenFor_17 ?_
  obtain ⟨g18, h⟩ := asn h
  refine G_lald hC 102 (by omega) e_mnamesarr g18 dX11_areTakenFor_18 ?_
  obtain ⟨q19, h19, h⟩ := bnd h
  refine G_cSi (st := [.int q6]) hC _ (c_X11_lettersOf  l  h19) (va_cwS 1 hC.hts gX11_areTakenFor_X11_lettersOf rfl rfl rfl (by decide +kernel) ⟨Nat.le_of_ble_eq_true rfl, Nat.le_of_ble_eq_true rfl⟩) rfl (Nat.le_of_ble_eq_true rfl) (Nat.zero_le _) (Nat.zero_le _) rfl dX11_areTakenFor_19 (fun r19 enx hw => ?_)
  obtain ⟨rfl, rfl⟩ := hw
  refine G_icmp_eq hC 27 dX11_areTakenFor_22 (by decide) (fun c22 => ?_) (fun c22 => ?_)
  · have h := ifp c22 h
    refine G_iconst hC (v := 0) (by decide) dX11_areTakenFor_27 ?_
    refine G_istore hC 5 [(5, .int (0 : Int32)), (4, .int q6), (0, .ref (ad 100)), (1, .int x1), (2, .int x2), (3, .int x3)] (by decide) rfl dX11_areTakenFor_28 ?_
    refine G_iconst hC (v := 0) (by decide) dX11_areTakenFor_30 ?_
    refine G_istore hC 6 [(6, .int (0 : Int32)), (5, .int (0 : Int32)), (4, .int q6), (0, .ref (ad 100)), (1, .int x1), (2, .int x2), (3, .int x3)] (by decide) rfl dX11_areTakenFor_31 ?_
    refine G_lv [3, 4, 5, 6, 2, 1, 0] rfl ?_
    exact hL33 FU _ _ _ _ _ _ h
  have h := ifn c22 h
  refine G_iconst hC (v := 0) (by decide) dX11_areTakenFor_25 ?_
  have h := Option.some.inj h
  subst h
  exact Kr _ _ _ _ (by decide) ⟨rfl, rfl⟩ dX11_areTakenFor_26
def f_X11_takenFor_B84 (mw : Nat → Int32) (mnames : Nat → Int64) (rL27 : (Nat → Int32) → Int32 → Int32 → Int32 → Int32 → Option (Int32 × (Nat → Int32))) (rL44 : (Nat → Int32) → Int32 → Int32 → Int32 → Int32 → Int32 → Option (Int32 × (Nat → Int32))) (mrefused : Nat → Int32) (x1 : Int32) (x2 : Int32) (x3 : Int32) (x4 : Int32) (x5 : Int32) : Option (Int32 × (Nat → Int32)) := rL44 mrefused x1 x2 x3 x4 (x5 + (1 : Int32))
def f_X11_takenFor_L44 (mw : Nat → Int32) (mnames : Nat → Int64) (rL27 : (Nat → Int32) → Int32 → Int32 → Int32 → Int32 → Option (Int32 × (Nat → Int32))) : Nat → (Nat → Int32) → Int32 → Int32 → Int32 → Int32 → Int32 → Option (Int32 × (Nat → Int32))
  | 0, _, _, _, _, _, _ => none
  | fu + 1, mrefused, x1, x2, x3, x4, x5 => if (0 : Int32) < 0 ∨ 960 ≤ (0 : Int32).toNatClampNeg then none else (if mw (0 : Int32).toNatClampNeg ≤ x5 then (rL27 mrefused x1 x2 x3 (x4 + (1 : Int32))) else (Option.bind (f_X11_areTakenFor mnames x4 x5 x1) (fun q61 => if q61 = 0 then (f_X11_takenFor_B84 mw mnames rL27 (f_X11_takenFor_L44 mw mnames rL27 fu) mrefused x1 x2 x3 x4 x5) else (if x3 = x2 then (some (((100 : Int32) * x4) + x5, mrefused)) else (f_X11_takenFor_B84 mw mnames rL27 (f_X11_takenFor_L44 mw mnames rL27 fu) mrefused x1 x2 (x3 + (1 : Int32)) x4 x5)))))
def f_X11_takenFor_L27 (mw : Nat → Int32) (mnames : Nat → Int64)  : Nat → (Nat → Int32) → Int32 → Int32 → Int32 → Int32 → Option (Int32 × (Nat → Int32))
  | 0, _, _, _, _, _ => none
  | fu + 1, mrefused, x1, x2, x3, x4 => if (0 : Int32) < 0 ∨ 960 ≤ (0 : Int32).toNatClampNeg then none else (if mw (0 : Int32).toNatClampNeg ≤ x4 then (if x2 = (-1 : Int32) then (some (x3, mrefused)) else (some ((-5 : Int32), mrefused))) else (f_X11_takenFor_L44 mw mnames (f_X11_takenFor_L27 mw mnames fu) FU mrefused x1 x2 x3 x4 (x4 + (1 : Int32))))
def f_X11_takenFor_B17 (mw : Nat → Int32) (mnames : Nat → Int64)  (mrefused : Nat → Int32) : Option (Int32 × (Nat → Int32)) := Option.bind (f_X11_toldElse mrefused) (fun q18 => some (q18.1, q18.2))
def f_X11_takenFor (mw : Nat → Int32) (mnames : Nat → Int64) (mrefused : Nat → Int32) (x1 : Int32) (x2 : Int32) : Option (Int32 × (Nat → Int32)) := Option.bind (f_X11_in x1.toInt64 (0 : Int64) (7 : Int64)) (fun q6 => if q6 = 0 then (f_X11_takenFor_B17 mw mnames mrefused) else (if (-1 : Int32) ≤ x2 then (f_X11_takenFor_L27 mw mnames FU mrefused x1 x2 (0 : Int32) (0 : Int32)) else (f_X11_takenFor_B17 mw mnames mrefused)))
set_option maxHeartbeats 4000000 in
set_option maxRecDepth 100000 in
theorem c_X11_takenFor {D : va_G} {cs : Nat → ClassId} {sa : Nat → Nat} {n : Nat} {ad : Nat → Nat} {A : Nat → Prop} (l : Launch) {en : Nat → va_E}  {mw : Nat → Int32} {mnames : Nat → Int64} {mtexted : Int32} {mundo : Int32} {mabove : Int64} {mbelow : Int64} {mrefused : Nat → Int32} {mitems : Int32} {mat : Int32} {mfault : Int32} {mtakes : Int32} {mmisses : Int64} {mbest : Int64} {mh : Int64} {x1 : Int32} {x2 : Int32}  {q : Int32 × (Nat → Int32)} (hn : 110 ≤ n) (e_model : en 100 = .inr (8, [.ref (ad 101), .ref (ad 102), .ref (ad 103), .ref (ad 104), .int mtexted, .int mundo, .long mabove, .long mbelow, .ref (ad 105), .ref (ad 106), .ref (ad 107), .ref (ad 108), .int mitems, .int mat, .int mfault, .int mtakes, .long mmisses, .long mbest, .ref (ad 109), .long mh])) (e_mwarr : en 101 = .inl (cs 1, 960, .inl (mw))) (e_mnamesarr : en 102 = .inl (cs 2, 96, .inr (.inl (mnames)))) (e_mrefusedarr : en 105 = .inl (cs 1, 3, .inl (mrefused))) (h : f_X11_takenFor mw mnames mrefused x1 x2 = some q) : Met l yX11_takenFor wsX11_takenFor { frames := 3, cells := 0, slots := 0, locals := 75 } (va_Pc [.ref (ad 100), .int x1, .int x2] (Wd D cs sa n ad A en)) (va_Qi (fun r u => q.1 = r ∧ u 105 = .inl (cs 1, 3, .inl (q.2)) ∧ (∀ j, (j < 105 ∨ 106 ≤ j) → u j = en j)) (Wd D cs sa n ad A) A) 0 0 A := by
  refine G_startI cX11_takenFor 6 [(0, .ref (ad 100)), (1, .int x1), (2, .int x2)] (by decide) rfl (Nat.le_of_ble_eq_true rfl) rfl ?_
  intro p e s m args below meth c Q hC hnm Kr
  have inX11 : ∀ w ∈ u_ws RX11 TX11 20, w ∈ wsX11_takenFor := by decide +kernel
  have k75 : Cond.constantLong RX11 75 (7) ∈ wsX11_takenFor := by decide +kernel
  have m7 : Cond.fieldLink RX11 7 "TongueTipModel" "w" "[I" ∈ wsX11_takenFor := by decide +kernel
  have hL27 : ∀ (fu27 : Nat), ∀ (en1 : Nat → va_E) (mrefused : Nat → Int32) (x1 : Int32) (x2 : Int32) (x3 : Int32) (x4 : Int32), en1 100 = .inr (8, [.ref (ad 101), .ref (ad 102), .ref (ad 103), .ref (ad 104), .int mtexted, .int mundo, .long mabove, .long mbelow, .ref (ad 105), .ref (ad 106), .ref (ad 107), .ref (ad 108), .int mitems, .int mat, .int mfault, .int mtakes, .long mmisses, .long mbest, .ref (ad 109), .long mh]) → en1 101 = .inl (cs 1, 960, .inl (mw)) → en1 102 = .inl (cs 2, 96, .inr (.inl (mnames))) → en1 105 = .inl (cs 1, 3, .inl (mrefused)) → (∀ j, (j < 105 ∨ 106 ≤ j) → en1 j = en j) → f_X11_takenFor_L27 mw mnames fu27 mrefused x1 x2 x3 x4 = some q → G p l e ({ frames := 3, cells := 0, slots := 0, locals := 75 } : Room) s m args below meth c D n ad A 6 0 0 Q en1 27 [(0, .ref (ad 100)), (1, .int x1), (2, .int x2), (3, .int x3), (4, .int x4)] [] := by
    intro fu27
    induction fu27 with
    | zero =>
      intro en1 mrefused x1 x2 x3 x4 e_model e_mwarr e_mnamesarr e_mrefusedarr hfr h
      rw [f_X11_takenFor_L27] at h
      cases h
    | succ fu27 ih27 =>
      have hL44 : ∀ (fu44 : Nat), ∀ (en1 : Nat → va_E) (mrefused : Nat → Int32) (x1 : Int32) (x2 : Int32) (x3 : Int32) (x4 : Int32) (x5 : Int32), en1 100 = .inr (8, [.ref (ad 101), .ref (ad 102), .ref (ad 103), .ref (ad 104), .int mtexted, .int mundo, .long mabove, .long mbelow, .ref (ad 105), .ref (ad 106), .ref (ad 107), .ref (ad 108), .int mitems, .int mat, .int mfault, .int mtakes, .long mmisses, .long mbest, .ref (ad 109), .long mh]) → en1 101 = .inl (cs 1, 960, .inl (mw)) → en1 102 = .inl (cs 2, 96, .inr (.inl (mnames))) → en1 105 = .inl (cs 1, 3, .inl (mrefused)) → (∀ j, (j < 105 ∨ 106 ≤ j) → en1 j = en j) → f_X11_takenFor_L44 mw mnames (f_X11_takenFor_L27 mw mnames fu27) fu44 mrefused x1 x2 x3 x4 x5 = some q → G p l e ({ frames := 3, cells := 0, slots := 0, locals := 75 } : Room) s m args below meth c D n ad A 6 0 0 Q en1 44 [(0, .ref (ad 100)), (1, .int x1), (2, .int x2), (3, .int x3), (4, .int x4), (5, .int x5)] [] := by
        intro fu44
        induction fu44 with
        | zero =>
          intro en1 mrefused x1 x2 x3 x4 x5 e_model e_mwarr e_mnamesarr e_mrefusedarr hfr h
          rw [f_X11_takenFor_L44] at h
          cases h
        | succ fu44 ih44 =>
          have hB84 : ∀ (en1 : Nat → va_E) (mrefused : Nat → Int32) (x1 : Int32) (x2 : Int32) (x3 : Int32) (x4 : Int32) (x5 : Int32), en1 100 = .inr (8, [.ref (ad 101), .ref (ad 102), .ref (ad 103), .ref (ad 104), .int mtexted, .int mundo, .long mabove, .long mbelow, .ref (ad 105), .ref (ad 106), .ref (ad 107), .ref (ad 108), .int mitems, .int mat, .int mfault, .int mtakes, .long mmisses, .long mbest, .ref (ad 109), .long mh]) → en1 101 = .inl (cs 1, 960, .inl (mw)) → en1 102 = .inl (cs 2, 96, .inr (.inl (mnames))) → en1 105 = .inl (cs 1, 3, .inl (mrefused)) → (∀ j, (j < 105 ∨ 106 ≤ j) → en1 j = en j) → f_X11_takenFor_B84 mw mnames (f_X11_takenFor_L27 mw mnames fu27) (f_X11_takenFor_L44 mw mnames (f_X11_takenFor_L27 mw mnames fu27) fu44) mrefused x1 x2 x3 x4 x5 = some q → G p l e ({ frames := 3, cells := 0, slots := 0, locals := 75 } : Room) s m args below meth c D n ad A 6 0 0 Q en1 84 [(0, .ref (ad 100)), (1, .int x1), (2, .int x2), (3, .int x3), (4, .int x4), (5, .int x5)] [] := by
            intro en1 mrefused x1 x2 x3 x4 x5 e_model e_mwarr e_mnamesarr e_mrefusedarr hfr h
            unfold f_X11_takenFor_B84 at h
            refine G_iinc hC 5 5 [(5, .int (x5 + (1 : Int32))), (0, .ref (ad 100)), (1, .int x1), (2, .int x2), (3, .int x3), (4, .int x4)] rfl rfl (by decide) rfl dX11_takenFor_84 ?_
            refine G_goto hC 44 dX11_takenFor_87 (by decide) ?_
            refine G_lv [1, 2, 3, 4, 5, 0] rfl ?_
            exact ih44 _ _ _ _ _ _ _ e_model e_mwarr e_mnamesarr e_mrefusedarr hfr h
          intro en1 mrefused x1 x2 x3 x4 x5 e_model e_mwarr e_mnamesarr e_mrefusedarr hfr h
          rw [f_X11_takenFor_L44] at h
          refine G_iload hC 5 5 rfl dX11_takenFor_44 ?_
          refine G_aload_n hC 0 0 rfl rfl dX11_takenFor_46 ?_
          refine G_get hC inX11 100 (by omega) (v := .ref (ad 101)) e_model rfl 0 (by decide) m7 rfl rfl dX11_takenFor_47 ?_
          refine G_iconst hC (v := 0) (by decide) dX11_takenFor_50 ?_
          obtain ⟨g51, h⟩ := asn h
          refine G_iald hC 101 (by omega) e_mwarr g51 dX11_takenFor_51 ?_
          refine G_icmp_ge hC 90 dX11_takenFor_52 (by decide) (fun c52 => ?_) (fun c52 => ?_)
          · have h := ifp c52 h
            refine G_iinc hC 4 4 [(4, .int (x4 + (1 : Int32))), (0, .ref (ad 100)), (1, .int x1), (2, .int x2), (3, .int x3), (5, .int x5)] rfl rfl (by decide) rfl dX11_takenFor_90 ?_
            refine G_goto hC 27 dX11_takenFor_93 (by decide) ?_
            refine G_lv [1, 2, 3, 4, 0] rfl ?_
            exact ih27 _ _ _ _ _ _ e_model e_mwarr e_mnamesarr e_mrefusedarr hfr h
          have h := ifn c52 h
          refine G_aload_n hC 0 0 rfl rfl dX11_takenFor_55 ?_
          refine G_iload hC 4 4 rfl dX11_takenFor_56 ?_
          refine G_iload hC 5 5 rfl dX11_takenFor_58 ?_
          refine G_iload_n hC 1 1 rfl rfl dX11_takenFor_60 ?_
          obtain ⟨q61, h61, h⟩ := bnd h
          refine G_cVi (st := []) hC _ 100 (by omega) (c_X11_areTakenFor  l (by omega) e_model e_mnamesarr h61) (cwV 3 hC.hts gX11_takenFor_X11_areTakenFor rfl rfl rfl (by decide +kernel) ⟨Nat.le_of_ble_eq_true rfl, Nat.le_of_ble_eq_true rfl⟩) e_model rfl rfl (Nat.le_of_ble_eq_true rfl) (Nat.zero_le _) (Nat.zero_le _) rfl dX11_takenFor_61 (fun r61 enx hw => ?_)
          obtain ⟨rfl, rfl⟩ := hw
          refine G_if_eq hC 84 dX11_takenFor_64 (by decide) (fun c64 => ?_) (fun c64 => ?_)
          · have h := ifp c64 h
            refine G_lv [0, 1, 2, 3, 4, 5] rfl ?_
            exact hB84 _ _ _ _ _ _ _ e_model e_mwarr e_mnamesarr e_mrefusedarr hfr h
          have h := ifn c64 h
          refine G_iload_n hC 3 3 rfl rfl dX11_takenFor_67 ?_
          refine G_iload_n hC 2 2 rfl rfl dX11_takenFor_68 ?_
          refine G_icmp_ne hC 81 dX11_takenFor_69 (by decide) (fun c69 => ?_) (fun c69 => ?_)
          · have h := ifn c69 h
            refine G_iinc hC 3 3 [(3, .int (x3 + (1 : Int32))), (0, .ref (ad 100)), (1, .int x1), (2, .int x2), (4, .int x4), (5, .int x5)] rfl rfl (by decide) rfl dX11_takenFor_81 ?_
            refine G_lv [1, 2, 3, 0, 4, 5] rfl ?_
            exact hB84 _ _ _ _ _ _ _ e_model e_mwarr e_mnamesarr e_mrefusedarr hfr h
          have h := ifp c69 h
          refine G_bipush hC (v := 100) (by decide) dX11_takenFor_72 ?_
          refine G_iload hC 4 4 rfl dX11_takenFor_74 ?_
          refine G_imul hC dX11_takenFor_76 ?_
          refine G_iload hC 5 5 rfl dX11_takenFor_77 ?_
          refine G_iadd hC dX11_takenFor_79 ?_
          have h := Option.some.inj h
          subst h
          exact Kr _ _ _ _ (nar_i _) ⟨rfl, e_mrefusedarr, hfr⟩ dX11_takenFor_80
      intro en1 mrefused x1 x2 x3 x4 e_model e_mwarr e_mnamesarr e_mrefusedarr hfr h
      rw [f_X11_takenFor_L27] at h
      refine G_iload hC 4 4 rfl dX11_takenFor_27 ?_
      refine G_aload_n hC 0 0 rfl rfl dX11_takenFor_29 ?_
      refine G_get hC inX11 100 (by omega) (v := .ref (ad 101)) e_model rfl 0 (by decide) m7 rfl rfl dX11_takenFor_30 ?_
      refine G_iconst hC (v := 0) (by decide) dX11_takenFor_33 ?_
      obtain ⟨g34, h⟩ := asn h
      refine G_iald hC 101 (by omega) e_mwarr g34 dX11_takenFor_34 ?_
      refine G_icmp_ge hC 96 dX11_takenFor_35 (by decide) (fun c35 => ?_) (fun c35 => ?_)
      · have h := ifp c35 h
        refine G_iload_n hC 2 2 rfl rfl dX11_takenFor_96 ?_
        refine G_iconst hC (v := (-1)) (by decide) dX11_takenFor_97 ?_
        refine G_icmp_ne hC 105 dX11_takenFor_98 (by decide) (fun c98 => ?_) (fun c98 => ?_)
        · have h := ifn c98 h
          refine G_bipush hC (v := (-5)) (by decide) dX11_takenFor_105 ?_
          have h := Option.some.inj h
          subst h
          exact Kr _ _ _ _ (nar_i _) ⟨rfl, e_mrefusedarr, hfr⟩ dX11_takenFor_107
        have h := ifp c98 h
        refine G_iload_n hC 3 3 rfl rfl dX11_takenFor_101 ?_
        refine G_goto hC 107 dX11_takenFor_102 (by decide) ?_
        have h := Option.some.inj h
        subst h
        exact Kr _ _ _ _ (nar_i _) ⟨rfl, e_mrefusedarr, hfr⟩ dX11_takenFor_107
      have h := ifn c35 h
      refine G_iload hC 4 4 rfl dX11_takenFor_38 ?_
      refine G_iconst hC (v := 1) (by decide) dX11_takenFor_40 ?_
      refine G_iadd hC dX11_takenFor_41 ?_
      refine G_istore hC 5 [(5, .int (x4 + (1 : Int32))), (0, .ref (ad 100)), (1, .int x1), (2, .int x2), (3, .int x3), (4, .int x4)] (by decide) rfl dX11_takenFor_42 ?_
      refine G_lv [1, 2, 3, 4, 5, 0] rfl ?_
      exact hL44 FU _ _ _ _ _ _ _ e_model e_mwarr e_mnamesarr e_mrefusedarr hfr h
  have hB17 : ∀ (en1 : Nat → va_E) (mrefused : Nat → Int32), en1 100 = .inr (8, [.ref (ad 101), .ref (ad 102), .ref (ad 103), .ref (ad 104), .int mtexted, .int mundo, .long mabove, .long mbelow, .ref (ad 105), .ref (ad 106), .ref (ad 107), .ref (ad 108), .int mitems, .int mat, .int mfault, .int mtakes, .long mmisses, .long mbest, .ref (ad 109), .long mh]) → en1 101 = .inl (cs 1, 960, .inl (mw)) → en1 102 = .inl (cs 2, 96, .inr (.inl (mnames))) → en1 105 = .inl (cs 1, 3, .inl (mrefused)) → (∀ j, (j < 105 ∨ 106 ≤ j) → en1 j = en j) → f_X11_takenFor_B17 mw mnames mrefused = some q → G p l e ({ frames := 3, cells := 0, slots := 0, locals := 75 } : Room) s m args below meth c D n ad A 6 0 0 Q en1 17 [(0, .ref (ad 100))] [] := by
    intro en1 mrefused e_model e_mwarr e_mnamesarr e_mrefusedarr hfr h
    unfold f_X11_takenFor_B17 at h
    refine G_aload_n hC 0 0 rfl rfl dX11_takenFor_17 ?_
    obtain ⟨q18, h18, h⟩ := bnd h
    refine G_cVi (st := []) hC _ 100 (by omega) (c_X11_toldElse  l (by omega) e_model e_mrefusedarr h18) (cwV 0 hC.hts gX11_takenFor_X11_toldElse rfl rfl rfl (by decide +kernel) ⟨Nat.le_of_ble_eq_true rfl, Nat.le_of_ble_eq_true rfl⟩) e_model rfl rfl (Nat.le_of_ble_eq_true rfl) (Nat.zero_le _) (Nat.zero_le _) rfl dX11_takenFor_18 (fun r18 en2 hw => ?_)
    obtain ⟨rfl, e_mrefusedarr, fr⟩ := hw
    have e_model := (fr 100 (by omega)).trans e_model
    have e_mwarr := (fr 101 (by omega)).trans e_mwarr
    have e_mnamesarr := (fr 102 (by omega)).trans e_mnamesarr
    have hfr : ∀ j, (j < 105 ∨ 106 ≤ j) → en2 j = en j := fun j o0 => (fr j (by omega)).trans (hfr j o0)
    have h := Option.some.inj h
    subst h
    exact Kr _ _ _ _ (nar_i _) ⟨rfl, e_mrefusedarr, hfr⟩ dX11_takenFor_21
  unfold f_X11_takenFor at h
  have hfr : ∀ j, (j < 105 ∨ 106 ≤ j) → en j = en j := fun _ _ => rfl
  refine G_iload_n hC 1 1 rfl rfl dX11_takenFor_0 ?_
  refine G_i2l hC dX11_takenFor_1 ?_
  refine G_lconst hC (v := 0) (by decide) dX11_takenFor_2 ?_
  refine G_ldc2 hC (v := (7)) k75 dX11_takenFor_3 ?_
  obtain ⟨q6, h6, h⟩ := bnd h
  refine G_cSi (st := []) hC _ (c_X11_in  l  h6) (va_cwS 3 hC.hts gX11_takenFor_X11_in rfl rfl rfl (by decide +kernel) ⟨Nat.le_of_ble_eq_true rfl, Nat.le_of_ble_eq_true rfl⟩) rfl (Nat.le_of_ble_eq_true rfl) (Nat.zero_le _) (Nat.zero_le _) rfl dX11_takenFor_6 (fun r6 enx hw => ?_)
  obtain ⟨rfl, rfl⟩ := hw
  refine G_if_eq hC 17 dX11_takenFor_9 (by decide) (fun c9 => ?_) (fun c9 => ?_)
  · have h := ifp c9 h
    refine G_lv [0] rfl ?_
    exact hB17 _ _ e_model e_mwarr e_mnamesarr e_mrefusedarr hfr h
  have h := ifn c9 h
  refine G_iload_n hC 2 2 rfl rfl dX11_takenFor_12 ?_
  refine G_iconst hC (v := (-1)) (by decide) dX11_takenFor_13 ?_
  refine G_icmp_ge hC 22 dX11_takenFor_14 (by decide) (fun c14 => ?_) (fun c14 => ?_)
  · have h := ifp c14 h
    refine G_iconst hC (v := 0) (by decide) dX11_takenFor_22 ?_
    refine G_istore_n hC 3 [(3, .int (0 : Int32)), (0, .ref (ad 100)), (1, .int x1), (2, .int x2)] rfl (by decide) rfl dX11_takenFor_23 ?_
    refine G_iconst hC (v := 0) (by decide) dX11_takenFor_24 ?_
    refine G_istore hC 4 [(4, .int (0 : Int32)), (3, .int (0 : Int32)), (0, .ref (ad 100)), (1, .int x1), (2, .int x2)] (by decide) rfl dX11_takenFor_25 ?_
    refine G_lv [2, 3, 4, 1, 0] rfl ?_
    exact hL27 FU _ _ _ _ _ _ e_model e_mwarr e_mnamesarr e_mrefusedarr hfr h
  have h := ifn c14 h
  refine G_lv [0] rfl ?_
  exact hB17 _ _ e_model e_mwarr e_mnamesarr e_mrefusedarr hfr h
