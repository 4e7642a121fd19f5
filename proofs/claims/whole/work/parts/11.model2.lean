def f_X11_isEnd_B38 (mtext : Nat → Int32) (mtexted : Int32)  (mat : Int32) : Option (Int32 × Int32) := if mat = mtexted then (some ((1 : Int32), mat)) else (some ((0 : Int32), mat))
def f_X11_isEnd_L0 (mtext : Nat → Int32) (mtexted : Int32)  : Nat → Int32 → Option (Int32 × Int32)
  | 0, _ => none
  | fu + 1, mat => if mtexted ≤ mat then (f_X11_isEnd_B38 mtext mtexted mat) else (if mat < 0 ∨ 300 ≤ mat.toNatClampNeg then none else (if mtext mat.toNatClampNeg = (32 : Int32) then (f_X11_isEnd_L0 mtext mtexted fu (mat + (1 : Int32))) else (f_X11_isEnd_B38 mtext mtexted mat)))
def f_X11_isEnd (mtext : Nat → Int32) (mtexted : Int32) (mat : Int32)  : Option (Int32 × Int32) := f_X11_isEnd_L0 mtext mtexted FU mat
set_option maxHeartbeats 4000000 in
set_option maxRecDepth 100000 in
theorem c_X11_isEnd {D : va_G} {cs : Nat → ClassId} {sa : Nat → Nat} {n : Nat} {ad : Nat → Nat} {A : Nat → Prop} (l : Launch) {en : Nat → va_E}  {mtext : Nat → Int32} {mtexted : Int32} {mundo : Int32} {mabove : Int64} {mbelow : Int64} {mitems : Int32} {mat : Int32} {mfault : Int32} {mtakes : Int32} {mmisses : Int64} {mbest : Int64} {mh : Int64}   {q : Int32 × Int32} (hn : 110 ≤ n) (e_model : en 100 = .inr (8, [.ref (ad 101), .ref (ad 102), .ref (ad 103), .ref (ad 104), .int mtexted, .int mundo, .long mabove, .long mbelow, .ref (ad 105), .ref (ad 106), .ref (ad 107), .ref (ad 108), .int mitems, .int mat, .int mfault, .int mtakes, .long mmisses, .long mbest, .ref (ad 109), .long mh])) (e_mtextarr : en 104 = .inl (cs 1, 300, .inl (mtext))) (h : f_X11_isEnd mtext mtexted mat = some q) : Met l yX11_isEnd wsX11_isEnd { frames := 0, cells := 0, slots := 0, locals := 0 } (va_Pc [.ref (ad 100)] (Wd D cs sa n ad A en)) (va_Qi (fun r u => q.1 = r ∧ u 100 = .inr (8, [.ref (ad 101), .ref (ad 102), .ref (ad 103), .ref (ad 104), .int mtexted, .int mundo, .long mabove, .long mbelow, .ref (ad 105), .ref (ad 106), .ref (ad 107), .ref (ad 108), .int mitems, .int q.2, .int mfault, .int mtakes, .long mmisses, .long mbest, .ref (ad 109), .long mh]) ∧ (∀ j, (j < 100 ∨ 101 ≤ j) → u j = en j)) (Wd D cs sa n ad A) A) 0 0 A := by
  refine G_startI cX11_isEnd 1 [(0, .ref (ad 100))] (by decide) rfl (Nat.le_of_ble_eq_true rfl) rfl ?_
  intro p e s m args below meth c Q hC hnm Kr
  have inX11 : ∀ w ∈ u_ws RX11 TX11 20, w ∈ wsX11_isEnd := by decide +kernel
  have m124 : Cond.fieldLink RX11 124 "TongueTipModel" "texted" "I" ∈ wsX11_isEnd := by decide +kernel
  have m129 : Cond.fieldLink RX11 129 "TongueTipModel" "at" "I" ∈ wsX11_isEnd := by decide +kernel
  have m21 : Cond.fieldLink RX11 21 "TongueTipModel" "text" "[I" ∈ wsX11_isEnd := by decide +kernel
  have hB38 : ∀ (en1 : Nat → va_E) (mat : Int32), en1 100 = .inr (8, [.ref (ad 101), .ref (ad 102), .ref (ad 103), .ref (ad 104), .int mtexted, .int mundo, .long mabove, .long mbelow, .ref (ad 105), .ref (ad 106), .ref (ad 107), .ref (ad 108), .int mitems, .int mat, .int mfault, .int mtakes, .long mmisses, .long mbest, .ref (ad 109), .long mh]) → en1 104 = .inl (cs 1, 300, .inl (mtext)) → (∀ j, (j < 100 ∨ 101 ≤ j) → en1 j = en j) → f_X11_isEnd_B38 mtext mtexted mat = some q → G p l e ({ frames := 0, cells := 0, slots := 0, locals := 0 } : Room) s m args below meth c D n ad A 1 0 0 Q en1 38 [(0, .ref (ad 100))] [] := by
    intro en1 mat e_model e_mtextarr hfr h
    unfold f_X11_isEnd_B38 at h
    refine G_aload_n hC 0 0 rfl rfl dX11_isEnd_38 ?_
    refine G_get hC inX11 100 (by omega) (v := .int mat) e_model rfl 13 (by decide) m129 rfl rfl dX11_isEnd_39 ?_
    refine G_aload_n hC 0 0 rfl rfl dX11_isEnd_42 ?_
    refine G_get hC inX11 100 (by omega) (v := .int mtexted) e_model rfl 4 (by decide) m124 rfl rfl dX11_isEnd_43 ?_
    refine G_icmp_ne hC 53 dX11_isEnd_46 (by decide) (fun c46 => ?_) (fun c46 => ?_)
    · have h := ifn c46 h
      refine G_iconst hC (v := 0) (by decide) dX11_isEnd_53 ?_
      have h := Option.some.inj h
      subst h
      exact Kr _ _ _ _ (by decide) ⟨rfl, e_model, hfr⟩ dX11_isEnd_54
    have h := ifp c46 h
    refine G_iconst hC (v := 1) (by decide) dX11_isEnd_49 ?_
    refine G_goto hC 54 dX11_isEnd_50 (by decide) ?_
    have h := Option.some.inj h
    subst h
    exact Kr _ _ _ _ (by decide) ⟨rfl, e_model, hfr⟩ dX11_isEnd_54
  have hL0 : ∀ (fu0 : Nat), ∀ (en1 : Nat → va_E) (mat : Int32), en1 100 = .inr (8, [.ref (ad 101), .ref (ad 102), .ref (ad 103), .ref (ad 104), .int mtexted, .int mundo, .long mabove, .long mbelow, .ref (ad 105), .ref (ad 106), .ref (ad 107), .ref (ad 108), .int mitems, .int mat, .int mfault, .int mtakes, .long mmisses, .long mbest, .ref (ad 109), .long mh]) → en1 104 = .inl (cs 1, 300, .inl (mtext)) → (∀ j, (j < 100 ∨ 101 ≤ j) → en1 j = en j) → f_X11_isEnd_L0 mtext mtexted fu0 mat = some q → G p l e ({ frames := 0, cells := 0, slots := 0, locals := 0 } : Room) s m args below meth c D n ad A 1 0 0 Q en1 0 [(0, .ref (ad 100))] [] := by
    intro fu0
    induction fu0 with
    | zero =>
      intro en1 mat e_model e_mtextarr hfr h
      rw [f_X11_isEnd_L0] at h
      cases h
    | succ fu0 ih0 =>
      intro en1 mat e_model e_mtextarr hfr h
      rw [f_X11_isEnd_L0] at h
      refine G_aload_n hC 0 0 rfl rfl dX11_isEnd_0 ?_
      refine G_get hC inX11 100 (by omega) (v := .int mat) e_model rfl 13 (by decide) m129 rfl rfl dX11_isEnd_1 ?_
      refine G_aload_n hC 0 0 rfl rfl dX11_isEnd_4 ?_
      refine G_get hC inX11 100 (by omega) (v := .int mtexted) e_model rfl 4 (by decide) m124 rfl rfl dX11_isEnd_5 ?_
      refine G_icmp_ge hC 38 dX11_isEnd_8 (by decide) (fun c8 => ?_) (fun c8 => ?_)
      · have h := ifp c8 h
        refine G_lv [0] rfl ?_
        exact hB38 _ _ e_model e_mtextarr hfr h
      have h := ifn c8 h
      refine G_aload_n hC 0 0 rfl rfl dX11_isEnd_11 ?_
      refine G_get hC inX11 100 (by omega) (v := .ref (ad 104)) e_model rfl 3 (by decide) m21 rfl rfl dX11_isEnd_12 ?_
      refine G_aload_n hC 0 0 rfl rfl dX11_isEnd_15 ?_
      refine G_get hC inX11 100 (by omega) (v := .int mat) e_model rfl 13 (by decide) m129 rfl rfl dX11_isEnd_16 ?_
      obtain ⟨g19, h⟩ := asn h
      refine G_iald hC 104 (by omega) e_mtextarr g19 dX11_isEnd_19 ?_
      refine G_bipush hC (v := 32) (by decide) dX11_isEnd_20 ?_
      refine G_icmp_ne hC 38 dX11_isEnd_22 (by decide) (fun c22 => ?_) (fun c22 => ?_)
      · have h := ifn c22 h
        refine G_lv [0] rfl ?_
        exact hB38 _ _ e_model e_mtextarr hfr h
      have h := ifp c22 h
      refine G_aload_n hC 0 0 rfl rfl dX11_isEnd_25 ?_
      refine G_dup hC rfl dX11_isEnd_26 ?_
      refine G_get hC inX11 100 (by omega) (v := .int mat) e_model rfl 13 (by decide) m129 rfl rfl dX11_isEnd_27 ?_
      refine G_iconst hC (v := 1) (by decide) dX11_isEnd_30 ?_
      refine G_iadd hC dX11_isEnd_31 ?_
      refine G_put hC inX11 tyX11 tyX11_ok nmX11 100 (by omega) e_model rfl 13 (by decide) m129 rfl rfl (ty := .int) rfl rfl rfl (Nat.le_of_ble_eq_true rfl) dX11_isEnd_32 (fun en2 e_model fr => ?_)
      have e_model : en2 100 = .inr (8, [.ref (ad 101), .ref (ad 102), .ref (ad 103), .ref (ad 104), .int mtexted, .int mundo, .long mabove, .long mbelow, .ref (ad 105), .ref (ad 106), .ref (ad 107), .ref (ad 108), .int mitems, .int (mat + (1 : Int32)), .int mfault, .int mtakes, .long mmisses, .long mbest, .ref (ad 109), .long mh]) := e_model
      have e_mtextarr := (fr 104 (by omega)).trans e_mtextarr
      have hfr : ∀ j, (j < 100 ∨ 101 ≤ j) → en2 j = en j := fun j o0 => (fr j (by omega)).trans (hfr j o0)
      refine G_goto hC 0 dX11_isEnd_35 (by decide) ?_
      refine G_lv [0] rfl ?_
      exact ih0 _ _ e_model e_mtextarr hfr h
  unfold f_X11_isEnd at h
  have hfr : ∀ j, (j < 100 ∨ 101 ≤ j) → en j = en j := fun _ _ => rfl
  refine G_lv [0] rfl ?_
  exact hL0 FU _ _ e_model e_mtextarr hfr h
def f_X11_takeLetters_B77 (mtext : Nat → Int32) (mtexted : Int32) (rL7 : Int32 → Int32 → Int64 → Option (Int64 × Int32)) (mat : Int32) (x1 : Int32) (s0 : Int64) : Option (Int64 × Int32) := rL7 (mat + (1 : Int32)) x1 s0
def f_X11_takeLetters_L7 (mtext : Nat → Int32) (mtexted : Int32)  : Nat → Int32 → Int32 → Int64 → Option (Int64 × Int32)
  | 0, _, _, _ => none
  | fu + 1, mat, x1, x2 => if mtexted ≤ mat then (some (x2, mat)) else (if mat < 0 ∨ 300 ≤ mat.toNatClampNeg then none else (Option.bind (f_X11_in ((mtext mat.toNatClampNeg).toInt64) (97 : Int64) (122 : Int64)) (fun q34 => if q34 = 0 then (some (x2, mat)) else (if (7 : Int32) ≤ mat - x1 then (f_X11_takeLetters_B77 mtext mtexted (f_X11_takeLetters_L7 mtext mtexted fu) mat x1 (-1 : Int64)) else (if mat < 0 ∨ 300 ≤ mat.toNatClampNeg then none else (f_X11_takeLetters_B77 mtext mtexted (f_X11_takeLetters_L7 mtext mtexted fu) mat x1 ((((32 : Int64) * x2) + ((mtext mat.toNatClampNeg).toInt64)) - (96 : Int64))))))))
def f_X11_takeLetters (mtext : Nat → Int32) (mtexted : Int32) (mat : Int32)  : Option (Int64 × Int32) := f_X11_takeLetters_L7 mtext mtexted FU mat mat (0 : Int64)
set_option maxHeartbeats 4000000 in
set_option maxRecDepth 100000 in
theorem c_X11_takeLetters {D : va_G} {cs : Nat → ClassId} {sa : Nat → Nat} {n : Nat} {ad : Nat → Nat} {A : Nat → Prop} (l : Launch) {en : Nat → va_E}  {mtext : Nat → Int32} {mtexted : Int32} {mundo : Int32} {mabove : Int64} {mbelow : Int64} {mitems : Int32} {mat : Int32} {mfault : Int32} {mtakes : Int32} {mmisses : Int64} {mbest : Int64} {mh : Int64}   {q : Int64 × Int32} (hn : 110 ≤ n) (e_model : en 100 = .inr (8, [.ref (ad 101), .ref (ad 102), .ref (ad 103), .ref (ad 104), .int mtexted, .int mundo, .long mabove, .long mbelow, .ref (ad 105), .ref (ad 106), .ref (ad 107), .ref (ad 108), .int mitems, .int mat, .int mfault, .int mtakes, .long mmisses, .long mbest, .ref (ad 109), .long mh])) (e_mtextarr : en 104 = .inl (cs 1, 300, .inl (mtext))) (h : f_X11_takeLetters mtext mtexted mat = some q) : Met l yX11_takeLetters wsX11_takeLetters { frames := 1, cells := 0, slots := 0, locals := 25 } (va_Pc [.ref (ad 100)] (Wd D cs sa n ad A en)) (va_Ql (fun r u => q.1 = r ∧ u 100 = .inr (8, [.ref (ad 101), .ref (ad 102), .ref (ad 103), .ref (ad 104), .int mtexted, .int mundo, .long mabove, .long mbelow, .ref (ad 105), .ref (ad 106), .ref (ad 107), .ref (ad 108), .int mitems, .int q.2, .int mfault, .int mtakes, .long mmisses, .long mbest, .ref (ad 109), .long mh]) ∧ (∀ j, (j < 100 ∨ 101 ≤ j) → u j = en j)) (Wd D cs sa n ad A) A) 0 0 A := by
  refine G_startL cX11_takeLetters 4 [(0, .ref (ad 100))] (by decide) rfl (Nat.le_of_ble_eq_true rfl) rfl ?_
  intro p e s m args below meth c Q hC hnm Kr
  have inX11 : ∀ w ∈ u_ws RX11 TX11 20, w ∈ wsX11_takeLetters := by decide +kernel
  have k132 : Cond.constantLong RX11 132 (97) ∈ wsX11_takeLetters := by decide +kernel
  have k134 : Cond.constantLong RX11 134 (122) ∈ wsX11_takeLetters := by decide +kernel
  have k136 : Cond.constantLong RX11 136 (96) ∈ wsX11_takeLetters := by decide +kernel
  have k138 : Cond.constantLong RX11 138 (-1) ∈ wsX11_takeLetters := by decide +kernel
  have k51 : Cond.constantLong RX11 51 (32) ∈ wsX11_takeLetters := by decide +kernel
  have m124 : Cond.fieldLink RX11 124 "TongueTipModel" "texted" "I" ∈ wsX11_takeLetters := by decide +kernel
  have m129 : Cond.fieldLink RX11 129 "TongueTipModel" "at" "I" ∈ wsX11_takeLetters := by decide +kernel
  have m21 : Cond.fieldLink RX11 21 "TongueTipModel" "text" "[I" ∈ wsX11_takeLetters := by decide +kernel
  have hL7 : ∀ (fu7 : Nat), ∀ (en1 : Nat → va_E) (mat : Int32) (x1 : Int32) (x2 : Int64), en1 100 = .inr (8, [.ref (ad 101), .ref (ad 102), .ref (ad 103), .ref (ad 104), .int mtexted, .int mundo, .long mabove, .long mbelow, .ref (ad 105), .ref (ad 106), .ref (ad 107), .ref (ad 108), .int mitems, .int mat, .int mfault, .int mtakes, .long mmisses, .long mbest, .ref (ad 109), .long mh]) → en1 104 = .inl (cs 1, 300, .inl (mtext)) → (∀ j, (j < 100 ∨ 101 ≤ j) → en1 j = en j) → f_X11_takeLetters_L7 mtext mtexted fu7 mat x1 x2 = some q → G p l e ({ frames := 1, cells := 0, slots := 0, locals := 25 } : Room) s m args below meth c D n ad A 4 0 0 Q en1 7 [(0, .ref (ad 100)), (1, .int x1), (2, .long x2)] [] := by
    intro fu7
    induction fu7 with
    | zero =>
      intro en1 mat x1 x2 e_model e_mtextarr hfr h
      rw [f_X11_takeLetters_L7] at h
      cases h
    | succ fu7 ih7 =>
      have hB77 : ∀ (en1 : Nat → va_E) (mat : Int32) (x1 : Int32) (s0 : Int64), en1 100 = .inr (8, [.ref (ad 101), .ref (ad 102), .ref (ad 103), .ref (ad 104), .int mtexted, .int mundo, .long mabove, .long mbelow, .ref (ad 105), .ref (ad 106), .ref (ad 107), .ref (ad 108), .int mitems, .int mat, .int mfault, .int mtakes, .long mmisses, .long mbest, .ref (ad 109), .long mh]) → en1 104 = .inl (cs 1, 300, .inl (mtext)) → (∀ j, (j < 100 ∨ 101 ≤ j) → en1 j = en j) → f_X11_takeLetters_B77 mtext mtexted (f_X11_takeLetters_L7 mtext mtexted fu7) mat x1 s0 = some q → G p l e ({ frames := 1, cells := 0, slots := 0, locals := 25 } : Room) s m args below meth c D n ad A 4 0 0 Q en1 77 [(0, .ref (ad 100)), (1, .int x1)] [.long s0] := by
        intro en1 mat x1 s0 e_model e_mtextarr hfr h
        unfold f_X11_takeLetters_B77 at h
        refine G_lstore_n hC 2 [(2, .long s0), (0, .ref (ad 100)), (1, .int x1)] rfl (by decide) rfl dX11_takeLetters_77 ?_
        refine G_aload_n hC 0 1 rfl rfl dX11_takeLetters_78 ?_
        refine G_dup hC rfl dX11_takeLetters_79 ?_
        refine G_get hC inX11 100 (by omega) (v := .int mat) e_model rfl 13 (by decide) m129 rfl rfl dX11_takeLetters_80 ?_
        refine G_iconst hC (v := 1) (by decide) dX11_takeLetters_83 ?_
        refine G_iadd hC dX11_takeLetters_84 ?_
        refine G_put hC inX11 tyX11 tyX11_ok nmX11 100 (by omega) e_model rfl 13 (by decide) m129 rfl rfl (ty := .int) rfl rfl rfl (Nat.le_of_ble_eq_true rfl) dX11_takeLetters_85 (fun en2 e_model fr => ?_)
        have e_model : en2 100 = .inr (8, [.ref (ad 101), .ref (ad 102), .ref (ad 103), .ref (ad 104), .int mtexted, .int mundo, .long mabove, .long mbelow, .ref (ad 105), .ref (ad 106), .ref (ad 107), .ref (ad 108), .int mitems, .int (mat + (1 : Int32)), .int mfault, .int mtakes, .long mmisses, .long mbest, .ref (ad 109), .long mh]) := e_model
        have e_mtextarr := (fr 104 (by omega)).trans e_mtextarr
        have hfr : ∀ j, (j < 100 ∨ 101 ≤ j) → en2 j = en j := fun j o0 => (fr j (by omega)).trans (hfr j o0)
        refine G_goto hC 7 dX11_takeLetters_88 (by decide) ?_
        refine G_lv [1, 2, 0] rfl ?_
        exact ih7 _ _ _ _ e_model e_mtextarr hfr h
      intro en1 mat x1 x2 e_model e_mtextarr hfr h
      rw [f_X11_takeLetters_L7] at h
      refine G_aload_n hC 0 0 rfl rfl dX11_takeLetters_7 ?_
      refine G_get hC inX11 100 (by omega) (v := .int mat) e_model rfl 13 (by decide) m129 rfl rfl dX11_takeLetters_8 ?_
      refine G_aload_n hC 0 0 rfl rfl dX11_takeLetters_11 ?_
      refine G_get hC inX11 100 (by omega) (v := .int mtexted) e_model rfl 4 (by decide) m124 rfl rfl dX11_takeLetters_12 ?_
      refine G_icmp_ge hC 91 dX11_takeLetters_15 (by decide) (fun c15 => ?_) (fun c15 => ?_)
      · have h := ifp c15 h
        refine G_lload_n hC 2 2 rfl rfl dX11_takeLetters_91 ?_
        have h := Option.some.inj h
        subst h
        exact Kr _ _ _ _ ⟨rfl, e_model, hfr⟩ dX11_takeLetters_92
      have h := ifn c15 h
      refine G_aload_n hC 0 0 rfl rfl dX11_takeLetters_18 ?_
      refine G_get hC inX11 100 (by omega) (v := .ref (ad 104)) e_model rfl 3 (by decide) m21 rfl rfl dX11_takeLetters_19 ?_
      refine G_aload_n hC 0 0 rfl rfl dX11_takeLetters_22 ?_
      refine G_get hC inX11 100 (by omega) (v := .int mat) e_model rfl 13 (by decide) m129 rfl rfl dX11_takeLetters_23 ?_
      obtain ⟨g26, h⟩ := asn h
      refine G_iald hC 104 (by omega) e_mtextarr g26 dX11_takeLetters_26 ?_
      refine G_i2l hC dX11_takeLetters_27 ?_
      refine G_ldc2 hC (v := (97)) k132 dX11_takeLetters_28 ?_
      refine G_ldc2 hC (v := (122)) k134 dX11_takeLetters_31 ?_
      obtain ⟨q34, h34, h⟩ := bnd h
      refine G_cSi (st := []) hC _ (c_X11_in  l  h34) (va_cwS 3 hC.hts gX11_takeLetters_X11_in rfl rfl rfl (by decide +kernel) ⟨Nat.le_of_ble_eq_true rfl, Nat.le_of_ble_eq_true rfl⟩) rfl (Nat.le_of_ble_eq_true rfl) (Nat.zero_le _) (Nat.zero_le _) rfl dX11_takeLetters_34 (fun r34 enx hw => ?_)
      obtain ⟨rfl, rfl⟩ := hw
      refine G_if_eq hC 91 dX11_takeLetters_37 (by decide) (fun c37 => ?_) (fun c37 => ?_)
      · have h := ifp c37 h
        refine G_lload_n hC 2 2 rfl rfl dX11_takeLetters_91 ?_
        have h := Option.some.inj h
        subst h
        exact Kr _ _ _ _ ⟨rfl, e_model, hfr⟩ dX11_takeLetters_92
      have h := ifn c37 h
      refine G_aload_n hC 0 0 rfl rfl dX11_takeLetters_40 ?_
      refine G_get hC inX11 100 (by omega) (v := .int mat) e_model rfl 13 (by decide) m129 rfl rfl dX11_takeLetters_41 ?_
      refine G_iload_n hC 1 1 rfl rfl dX11_takeLetters_44 ?_
      refine G_isub hC dX11_takeLetters_45 ?_
      refine G_bipush hC (v := 7) (by decide) dX11_takeLetters_46 ?_
      refine G_icmp_ge hC 74 dX11_takeLetters_48 (by decide) (fun c48 => ?_) (fun c48 => ?_)
      · have h := ifp c48 h
        refine G_ldc2 hC (v := (-1)) k138 dX11_takeLetters_74 ?_
        refine G_lv [0, 1] rfl ?_
        exact hB77 _ _ _ _ e_model e_mtextarr hfr h
      have h := ifn c48 h
      refine G_ldc2 hC (v := (32)) k51 dX11_takeLetters_51 ?_
      refine G_lload_n hC 2 2 rfl rfl dX11_takeLetters_54 ?_
      refine G_lmul hC dX11_takeLetters_55 ?_
      refine G_aload_n hC 0 0 rfl rfl dX11_takeLetters_56 ?_
      refine G_get hC inX11 100 (by omega) (v := .ref (ad 104)) e_model rfl 3 (by decide) m21 rfl rfl dX11_takeLetters_57 ?_
      refine G_aload_n hC 0 0 rfl rfl dX11_takeLetters_60 ?_
      refine G_get hC inX11 100 (by omega) (v := .int mat) e_model rfl 13 (by decide) m129 rfl rfl dX11_takeLetters_61 ?_
      obtain ⟨g64, h⟩ := asn h
      refine G_iald hC 104 (by omega) e_mtextarr g64 dX11_takeLetters_64 ?_
      refine G_i2l hC dX11_takeLetters_65 ?_
      refine G_ladd hC dX11_takeLetters_66 ?_
      refine G_ldc2 hC (v := (96)) k136 dX11_takeLetters_67 ?_
      refine G_lsub hC dX11_takeLetters_70 ?_
      refine G_goto hC 77 dX11_takeLetters_71 (by decide) ?_
      refine G_lv [0, 1] rfl ?_
      exact hB77 _ _ _ _ e_model e_mtextarr hfr h
  unfold f_X11_takeLetters at h
  have hfr : ∀ j, (j < 100 ∨ 101 ≤ j) → en j = en j := fun _ _ => rfl
  refine G_aload_n hC 0 0 rfl rfl dX11_takeLetters_0 ?_
  refine G_get hC inX11 100 (by omega) (v := .int mat) e_model rfl 13 (by decide) m129 rfl rfl dX11_takeLetters_1 ?_
  refine G_istore_n hC 1 [(1, .int mat), (0, .ref (ad 100))] rfl (by decide) rfl dX11_takeLetters_4 ?_
  refine G_lconst hC (v := 0) (by decide) dX11_takeLetters_5 ?_
  refine G_lstore_n hC 2 [(2, .long (0 : Int64)), (1, .int mat), (0, .ref (ad 100))] rfl (by decide) rfl dX11_takeLetters_6 ?_
  refine G_lv [2, 1, 0] rfl ?_
  exact hL7 FU _ _ _ _ e_model e_mtextarr hfr h
def f_X11_takeNumber_B129 (mtext : Nat → Int32) (mtexted : Int32)  (mat : Int32) (mfault : Int32) (x2 : Int32) (s1 : Int32) : Option (Int32 × Int32 × Int32) := some (x2, mat, s1)
def f_X11_takeNumber_B121 (mtext : Nat → Int32) (mtexted : Int32)  (mat : Int32) (mfault : Int32) (x1 : Int32) (x2 : Int32) : Option (Int32 × Int32 × Int32) := f_X11_takeNumber_B129 mtext mtexted mat mfault x2 x1
def f_X11_takeNumber_B102 (mtext : Nat → Int32) (mtexted : Int32)  (mat : Int32) (mfault : Int32) (x1 : Int32) (x2 : Int32) : Option (Int32 × Int32 × Int32) := if mat = x1 then (f_X11_takeNumber_B121 mtext mtexted mat mfault x1 x2) else (if mat - x1 ≤ (2 : Int32) then (f_X11_takeNumber_B129 mtext mtexted mat mfault x2 mfault) else (f_X11_takeNumber_B121 mtext mtexted mat mfault x1 x2))
def f_X11_takeNumber_B88 (mtext : Nat → Int32) (mtexted : Int32) (rL24 : Int32 → Int32 → Int32 → Int32 → Option (Int32 × Int32 × Int32)) (mat : Int32) (mfault : Int32) (x1 : Int32) (s0 : Int32) : Option (Int32 × Int32 × Int32) := rL24 (mat + (1 : Int32)) mfault x1 s0
def f_X11_takeNumber_L24 (mtext : Nat → Int32) (mtexted : Int32)  : Nat → Int32 → Int32 → Int32 → Int32 → Option (Int32 × Int32 × Int32)
  | 0, _, _, _, _ => none
  | fu + 1, mat, mfault, x1, x2 => if mtexted ≤ mat then (f_X11_takeNumber_B102 mtext mtexted mat mfault x1 x2) else (if mat < 0 ∨ 300 ≤ mat.toNatClampNeg then none else (Option.bind (f_X11_in ((mtext mat.toNatClampNeg).toInt64) (48 : Int64) (57 : Int64)) (fun q51 => if q51 = 0 then (f_X11_takeNumber_B102 mtext mtexted mat mfault x1 x2) else (if (2 : Int32) ≤ mat - x1 then (f_X11_takeNumber_B88 mtext mtexted (f_X11_takeNumber_L24 mtext mtexted fu) mat mfault x1 x2) else (if mat < 0 ∨ 300 ≤ mat.toNatClampNeg then none else (f_X11_takeNumber_B88 mtext mtexted (f_X11_takeNumber_L24 mtext mtexted fu) mat mfault x1 ((((10 : Int32) * x2) + (mtext mat.toNatClampNeg)) - (48 : Int32))))))))
def f_X11_takeNumber (mtext : Nat → Int32) (mtexted : Int32) (mat : Int32) (mfault : Int32)  : Option (Int32 × Int32 × Int32) := Option.bind (f_X11_isEnd mtext mtexted mat) (fun q1 => if q1.1 = 0 then (f_X11_takeNumber_L24 mtext mtexted FU q1.2 mfault q1.2 (0 : Int32)) else (some ((-1 : Int32), q1.2, mtexted)))
set_option maxHeartbeats 4000000 in
set_option maxRecDepth 100000 in
theorem c_X11_takeNumber {D : va_G} {cs : Nat → ClassId} {sa : Nat → Nat} {n : Nat} {ad : Nat → Nat} {A : Nat → Prop} (l : Launch) {en : Nat → va_E}  {mtext : Nat → Int32} {mtexted : Int32} {mundo : Int32} {mabove : Int64} {mbelow : Int64} {mitems : Int32} {mat : Int32} {mfault : Int32} {mtakes : Int32} {mmisses : Int64} {mbest : Int64} {mh : Int64}   {q : Int32 × Int32 × Int32} (hn : 110 ≤ n) (e_model : en 100 = .inr (8, [.ref (ad 101), .ref (ad 102), .ref (ad 103), .ref (ad 104), .int mtexted, .int mundo, .long mabove, .long mbelow, .ref (ad 105), .ref (ad 106), .ref (ad 107), .ref (ad 108), .int mitems, .int mat, .int mfault, .int mtakes, .long mmisses, .long mbest, .ref (ad 109), .long mh])) (e_mtextarr : en 104 = .inl (cs 1, 300, .inl (mtext))) (h : f_X11_takeNumber mtext mtexted mat mfault = some q) : Met l yX11_takeNumber wsX11_takeNumber { frames := 1, cells := 0, slots := 0, locals := 25 } (va_Pc [.ref (ad 100)] (Wd D cs sa n ad A en)) (va_Qi (fun r u => q.1 = r ∧ u 100 = .inr (8, [.ref (ad 101), .ref (ad 102), .ref (ad 103), .ref (ad 104), .int mtexted, .int mundo, .long mabove, .long mbelow, .ref (ad 105), .ref (ad 106), .ref (ad 107), .ref (ad 108), .int mitems, .int q.2.1, .int q.2.2, .int mtakes, .long mmisses, .long mbest, .ref (ad 109), .long mh]) ∧ (∀ j, (j < 100 ∨ 101 ≤ j) → u j = en j)) (Wd D cs sa n ad A) A) 0 0 A := by
  refine G_startI cX11_takeNumber 3 [(0, .ref (ad 100))] (by decide) rfl (Nat.le_of_ble_eq_true rfl) rfl ?_
  intro p e s m args below meth c Q hC hnm Kr
  have inX11 : ∀ w ∈ u_ws RX11 TX11 20, w ∈ wsX11_takeNumber := by decide +kernel
  have k157 : Cond.constantLong RX11 157 (48) ∈ wsX11_takeNumber := by decide +kernel
  have k159 : Cond.constantLong RX11 159 (57) ∈ wsX11_takeNumber := by decide +kernel
  have m124 : Cond.fieldLink RX11 124 "TongueTipModel" "texted" "I" ∈ wsX11_takeNumber := by decide +kernel
  have m129 : Cond.fieldLink RX11 129 "TongueTipModel" "at" "I" ∈ wsX11_takeNumber := by decide +kernel
  have m154 : Cond.fieldLink RX11 154 "TongueTipModel" "fault" "I" ∈ wsX11_takeNumber := by decide +kernel
  have m21 : Cond.fieldLink RX11 21 "TongueTipModel" "text" "[I" ∈ wsX11_takeNumber := by decide +kernel
  have hB129 : ∀ (en1 : Nat → va_E) (mat : Int32) (mfault : Int32) (x2 : Int32) (s1 : Int32), en1 100 = .inr (8, [.ref (ad 101), .ref (ad 102), .ref (ad 103), .ref (ad 104), .int mtexted, .int mundo, .long mabove, .long mbelow, .ref (ad 105), .ref (ad 106), .ref (ad 107), .ref (ad 108), .int mitems, .int mat, .int mfault, .int mtakes, .long mmisses, .long mbest, .ref (ad 109), .long mh]) → en1 104 = .inl (cs 1, 300, .inl (mtext)) → (∀ j, (j < 100 ∨ 101 ≤ j) → en1 j = en j) → f_X11_takeNumber_B129 mtext mtexted mat mfault x2 s1 = some q → G p l e ({ frames := 1, cells := 0, slots := 0, locals := 25 } : Room) s m args below meth c D n ad A 3 0 0 Q en1 129 [(2, .int x2)] [.int s1, .ref (ad 100)] := by
    intro en1 mat mfault x2 s1 e_model e_mtextarr hfr h
    unfold f_X11_takeNumber_B129 at h
    refine G_put hC inX11 tyX11 tyX11_ok nmX11 100 (by omega) e_model rfl 14 (by decide) m154 rfl rfl (ty := .int) rfl rfl rfl (Nat.le_of_ble_eq_true rfl) dX11_takeNumber_129 (fun en2 e_model fr => ?_)
    have e_model : en2 100 = .inr (8, [.ref (ad 101), .ref (ad 102), .ref (ad 103), .ref (ad 104), .int mtexted, .int mundo, .long mabove, .long mbelow, .ref (ad 105), .ref (ad 106), .ref (ad 107), .ref (ad 108), .int mitems, .int mat, .int s1, .int mtakes, .long mmisses, .long mbest, .ref (ad 109), .long mh]) := e_model
    have e_mtextarr := (fr 104 (by omega)).trans e_mtextarr
    have hfr : ∀ j, (j < 100 ∨ 101 ≤ j) → en2 j = en j := fun j o0 => (fr j (by omega)).trans (hfr j o0)
    refine G_iload_n hC 2 0 rfl rfl dX11_takeNumber_132 ?_
    have h := Option.some.inj h
    subst h
    exact Kr _ _ _ _ (nar_i _) ⟨rfl, e_model, hfr⟩ dX11_takeNumber_133
  have hB121 : ∀ (en1 : Nat → va_E) (mat : Int32) (mfault : Int32) (x1 : Int32) (x2 : Int32), en1 100 = .inr (8, [.ref (ad 101), .ref (ad 102), .ref (ad 103), .ref (ad 104), .int mtexted, .int mundo, .long mabove, .long mbelow, .ref (ad 105), .ref (ad 106), .ref (ad 107), .ref (ad 108), .int mitems, .int mat, .int mfault, .int mtakes, .long mmisses, .long mbest, .ref (ad 109), .long mh]) → en1 104 = .inl (cs 1, 300, .inl (mtext)) → (∀ j, (j < 100 ∨ 101 ≤ j) → en1 j = en j) → f_X11_takeNumber_B121 mtext mtexted mat mfault x1 x2 = some q → G p l e ({ frames := 1, cells := 0, slots := 0, locals := 25 } : Room) s m args below meth c D n ad A 3 0 0 Q en1 121 [(1, .int x1), (2, .int x2)] [.ref (ad 100)] := by
    intro en1 mat mfault x1 x2 e_model e_mtextarr hfr h
    unfold f_X11_takeNumber_B121 at h
    refine G_iload_n hC 1 0 rfl rfl dX11_takeNumber_121 ?_
    refine G_goto hC 129 dX11_takeNumber_122 (by decide) ?_
    refine G_lv [1] rfl ?_
    exact hB129 _ _ _ _ _ e_model e_mtextarr hfr h
  have hB102 : ∀ (en1 : Nat → va_E) (mat : Int32) (mfault : Int32) (x1 : Int32) (x2 : Int32), en1 100 = .inr (8, [.ref (ad 101), .ref (ad 102), .ref (ad 103), .ref (ad 104), .int mtexted, .int mundo, .long mabove, .long mbelow, .ref (ad 105), .ref (ad 106), .ref (ad 107), .ref (ad 108), .int mitems, .int mat, .int mfault, .int mtakes, .long mmisses, .long mbest, .ref (ad 109), .long mh]) → en1 104 = .inl (cs 1, 300, .inl (mtext)) → (∀ j, (j < 100 ∨ 101 ≤ j) → en1 j = en j) → f_X11_takeNumber_B102 mtext mtexted mat mfault x1 x2 = some q → G p l e ({ frames := 1, cells := 0, slots := 0, locals := 25 } : Room) s m args below meth c D n ad A 3 0 0 Q en1 102 [(0, .ref (ad 100)), (1, .int x1), (2, .int x2)] [] := by
    intro en1 mat mfault x1 x2 e_model e_mtextarr hfr h
    unfold f_X11_takeNumber_B102 at h
    refine G_aload_n hC 0 0 rfl rfl dX11_takeNumber_102 ?_
    refine G_aload_n hC 0 0 rfl rfl dX11_takeNumber_103 ?_
    refine G_get hC inX11 100 (by omega) (v := .int mat) e_model rfl 13 (by decide) m129 rfl rfl dX11_takeNumber_104 ?_
    refine G_iload_n hC 1 1 rfl rfl dX11_takeNumber_107 ?_
    refine G_icmp_eq hC 121 dX11_takeNumber_108 (by decide) (fun c108 => ?_) (fun c108 => ?_)
    · have h := ifp c108 h
      refine G_lv [1, 2] rfl ?_
      exact hB121 _ _ _ _ _ e_model e_mtextarr hfr h
    have h := ifn c108 h
    refine G_aload_n hC 0 0 rfl rfl dX11_takeNumber_111 ?_
    refine G_get hC inX11 100 (by omega) (v := .int mat) e_model rfl 13 (by decide) m129 rfl rfl dX11_takeNumber_112 ?_
    refine G_iload_n hC 1 1 rfl rfl dX11_takeNumber_115 ?_
    refine G_isub hC dX11_takeNumber_116 ?_
    refine G_iconst hC (v := 2) (by decide) dX11_takeNumber_117 ?_
    refine G_icmp_le hC 125 dX11_takeNumber_118 (by decide) (fun c118 => ?_) (fun c118 => ?_)
    · have h := ifp c118 h
      refine G_aload_n hC 0 0 rfl rfl dX11_takeNumber_125 ?_
      refine G_get hC inX11 100 (by omega) (v := .int mfault) e_model rfl 14 (by decide) m154 rfl rfl dX11_takeNumber_126 ?_
      refine G_lv [2] rfl ?_
      exact hB129 _ _ _ _ _ e_model e_mtextarr hfr h
    have h := ifn c118 h
    refine G_lv [1, 2] rfl ?_
    exact hB121 _ _ _ _ _ e_model e_mtextarr hfr h
  have hL24 : ∀ (fu24 : Nat), ∀ (en1 : Nat → va_E) (mat : Int32) (mfault : Int32) (x1 : Int32) (x2 : Int32), en1 100 = .inr (8, [.ref (ad 101), .ref (ad 102), .ref (ad 103), .ref (ad 104), .int mtexted, .int mundo, .long mabove, .long mbelow, .ref (ad 105), .ref (ad 106), .ref (ad 107), .ref (ad 108), .int mitems, .int mat, .int mfault, .int mtakes, .long mmisses, .long mbest, .ref (ad 109), .long mh]) → en1 104 = .inl (cs 1, 300, .inl (mtext)) → (∀ j, (j < 100 ∨ 101 ≤ j) → en1 j = en j) → f_X11_takeNumber_L24 mtext mtexted fu24 mat mfault x1 x2 = some q → G p l e ({ frames := 1, cells := 0, slots := 0, locals := 25 } : Room) s m args below meth c D n ad A 3 0 0 Q en1 24 [(0, .ref (ad 100)), (1, .int x1), (2, .int x2)] [] := by
    intro fu24
    induction fu24 with
    | zero =>
      intro en1 mat mfault x1 x2 e_model e_mtextarr hfr h
      rw [f_X11_takeNumber_L24] at h
      cases h
    | succ fu24 ih24 =>
      have hB88 : ∀ (en1 : Nat → va_E) (mat : Int32) (mfault : Int32) (x1 : Int32) (s0 : Int32), en1 100 = .inr (8, [.ref (ad 101), .ref (ad 102), .ref (ad 103), .ref (ad 104), .int mtexted, .int mundo, .long mabove, .long mbelow, .ref (ad 105), .ref (ad 106), .ref (ad 107), .ref (ad 108), .int mitems, .int mat, .int mfault, .int mtakes, .long mmisses, .long mbest, .ref (ad 109), .long mh]) → en1 104 = .inl (cs 1, 300, .inl (mtext)) → (∀ j, (j < 100 ∨ 101 ≤ j) → en1 j = en j) → f_X11_takeNumber_B88 mtext mtexted (f_X11_takeNumber_L24 mtext mtexted fu24) mat mfault x1 s0 = some q → G p l e ({ frames := 1, cells := 0, slots := 0, locals := 25 } : Room) s m args below meth c D n ad A 3 0 0 Q en1 88 [(0, .ref (ad 100)), (1, .int x1)] [.int s0] := by
        intro en1 mat mfault x1 s0 e_model e_mtextarr hfr h
        unfold f_X11_takeNumber_B88 at h
        refine G_istore_n hC 2 [(2, .int s0), (0, .ref (ad 100)), (1, .int x1)] rfl (by decide) rfl dX11_takeNumber_88 ?_
        refine G_aload_n hC 0 1 rfl rfl dX11_takeNumber_89 ?_
        refine G_dup hC rfl dX11_takeNumber_90 ?_
        refine G_get hC inX11 100 (by omega) (v := .int mat) e_model rfl 13 (by decide) m129 rfl rfl dX11_takeNumber_91 ?_
        refine G_iconst hC (v := 1) (by decide) dX11_takeNumber_94 ?_
        refine G_iadd hC dX11_takeNumber_95 ?_
        refine G_put hC inX11 tyX11 tyX11_ok nmX11 100 (by omega) e_model rfl 13 (by decide) m129 rfl rfl (ty := .int) rfl rfl rfl (Nat.le_of_ble_eq_true rfl) dX11_takeNumber_96 (fun en2 e_model fr => ?_)
        have e_model : en2 100 = .inr (8, [.ref (ad 101), .ref (ad 102), .ref (ad 103), .ref (ad 104), .int mtexted, .int mundo, .long mabove, .long mbelow, .ref (ad 105), .ref (ad 106), .ref (ad 107), .ref (ad 108), .int mitems, .int (mat + (1 : Int32)), .int mfault, .int mtakes, .long mmisses, .long mbest, .ref (ad 109), .long mh]) := e_model
        have e_mtextarr := (fr 104 (by omega)).trans e_mtextarr
        have hfr : ∀ j, (j < 100 ∨ 101 ≤ j) → en2 j = en j := fun j o0 => (fr j (by omega)).trans (hfr j o0)
        refine G_goto hC 24 dX11_takeNumber_99 (by decide) ?_
        refine G_lv [1, 2, 0] rfl ?_
        exact ih24 _ _ _ _ _ e_model e_mtextarr hfr h
      intro en1 mat mfault x1 x2 e_model e_mtextarr hfr h
      rw [f_X11_takeNumber_L24] at h
      refine G_aload_n hC 0 0 rfl rfl dX11_takeNumber_24 ?_
      refine G_get hC inX11 100 (by omega) (v := .int mat) e_model rfl 13 (by decide) m129 rfl rfl dX11_takeNumber_25 ?_
      refine G_aload_n hC 0 0 rfl rfl dX11_takeNumber_28 ?_
      refine G_get hC inX11 100 (by omega) (v := .int mtexted) e_model rfl 4 (by decide) m124 rfl rfl dX11_takeNumber_29 ?_
      refine G_icmp_ge hC 102 dX11_takeNumber_32 (by decide) (fun c32 => ?_) (fun c32 => ?_)
      · have h := ifp c32 h
        refine G_lv [0, 1, 2] rfl ?_
        exact hB102 _ _ _ _ _ e_model e_mtextarr hfr h
      have h := ifn c32 h
      refine G_aload_n hC 0 0 rfl rfl dX11_takeNumber_35 ?_
      refine G_get hC inX11 100 (by omega) (v := .ref (ad 104)) e_model rfl 3 (by decide) m21 rfl rfl dX11_takeNumber_36 ?_
      refine G_aload_n hC 0 0 rfl rfl dX11_takeNumber_39 ?_
      refine G_get hC inX11 100 (by omega) (v := .int mat) e_model rfl 13 (by decide) m129 rfl rfl dX11_takeNumber_40 ?_
      obtain ⟨g43, h⟩ := asn h
      refine G_iald hC 104 (by omega) e_mtextarr g43 dX11_takeNumber_43 ?_
      refine G_i2l hC dX11_takeNumber_44 ?_
      refine G_ldc2 hC (v := (48)) k157 dX11_takeNumber_45 ?_
      refine G_ldc2 hC (v := (57)) k159 dX11_takeNumber_48 ?_
      obtain ⟨q51, h51, h⟩ := bnd h
      refine G_cSi (st := []) hC _ (c_X11_in  l  h51) (va_cwS 3 hC.hts gX11_takeNumber_X11_in rfl rfl rfl (by decide +kernel) ⟨Nat.le_of_ble_eq_true rfl, Nat.le_of_ble_eq_true rfl⟩) rfl (Nat.le_of_ble_eq_true rfl) (Nat.zero_le _) (Nat.zero_le _) rfl dX11_takeNumber_51 (fun r51 enx hw => ?_)
      obtain ⟨rfl, rfl⟩ := hw
      refine G_if_eq hC 102 dX11_takeNumber_54 (by decide) (fun c54 => ?_) (fun c54 => ?_)
      · have h := ifp c54 h
        refine G_lv [0, 1, 2] rfl ?_
        exact hB102 _ _ _ _ _ e_model e_mtextarr hfr h
      have h := ifn c54 h
      refine G_aload_n hC 0 0 rfl rfl dX11_takeNumber_57 ?_
      refine G_get hC inX11 100 (by omega) (v := .int mat) e_model rfl 13 (by decide) m129 rfl rfl dX11_takeNumber_58 ?_
      refine G_iload_n hC 1 1 rfl rfl dX11_takeNumber_61 ?_
      refine G_isub hC dX11_takeNumber_62 ?_
      refine G_iconst hC (v := 2) (by decide) dX11_takeNumber_63 ?_
      refine G_icmp_ge hC 87 dX11_takeNumber_64 (by decide) (fun c64 => ?_) (fun c64 => ?_)
      · have h := ifp c64 h
        refine G_iload_n hC 2 2 rfl rfl dX11_takeNumber_87 ?_
        refine G_lv [0, 1] rfl ?_
        exact hB88 _ _ _ _ _ e_model e_mtextarr hfr h
      have h := ifn c64 h
      refine G_bipush hC (v := 10) (by decide) dX11_takeNumber_67 ?_
      refine G_iload_n hC 2 2 rfl rfl dX11_takeNumber_69 ?_
      refine G_imul hC dX11_takeNumber_70 ?_
      refine G_aload_n hC 0 0 rfl rfl dX11_takeNumber_71 ?_
      refine G_get hC inX11 100 (by omega) (v := .ref (ad 104)) e_model rfl 3 (by decide) m21 rfl rfl dX11_takeNumber_72 ?_
      refine G_aload_n hC 0 0 rfl rfl dX11_takeNumber_75 ?_
      refine G_get hC inX11 100 (by omega) (v := .int mat) e_model rfl 13 (by decide) m129 rfl rfl dX11_takeNumber_76 ?_
      obtain ⟨g79, h⟩ := asn h
      refine G_iald hC 104 (by omega) e_mtextarr g79 dX11_takeNumber_79 ?_
      refine G_iadd hC dX11_takeNumber_80 ?_
      refine G_bipush hC (v := 48) (by decide) dX11_takeNumber_81 ?_
      refine G_isub hC dX11_takeNumber_83 ?_
      refine G_goto hC 88 dX11_takeNumber_84 (by decide) ?_
      refine G_lv [0, 1] rfl ?_
      exact hB88 _ _ _ _ _ e_model e_mtextarr hfr h
  unfold f_X11_takeNumber at h
  have hfr : ∀ j, (j < 100 ∨ 101 ≤ j) → en j = en j := fun _ _ => rfl
  refine G_aload_n hC 0 0 rfl rfl dX11_takeNumber_0 ?_
  obtain ⟨q1, h1, h⟩ := bnd h
  refine G_cVi (st := []) hC _ 100 (by omega) (c_X11_isEnd  l (by omega) e_model e_mtextarr h1) (cwV 0 hC.hts gX11_takeNumber_X11_isEnd rfl rfl rfl (by decide +kernel) ⟨Nat.le_of_ble_eq_true rfl, Nat.le_of_ble_eq_true rfl⟩) e_model rfl rfl (Nat.le_of_ble_eq_true rfl) (Nat.zero_le _) (Nat.zero_le _) rfl dX11_takeNumber_1 (fun r1 en2 hw => ?_)
  obtain ⟨rfl, e_model, fr⟩ := hw
  have e_mtextarr := (fr 104 (by omega)).trans e_mtextarr
  have hfr : ∀ j, (j < 100 ∨ 101 ≤ j) → en2 j = en j := fun j o0 => (fr j (by omega)).trans (hfr j o0)
  refine G_if_eq hC 17 dX11_takeNumber_4 (by decide) (fun c4 => ?_) (fun c4 => ?_)
  · have h := ifp c4 h
    refine G_aload_n hC 0 0 rfl rfl dX11_takeNumber_17 ?_
    refine G_get hC inX11 100 (by omega) (v := .int q1.2) e_model rfl 13 (by decide) m129 rfl rfl dX11_takeNumber_18 ?_
    refine G_istore_n hC 1 [(1, .int q1.2), (0, .ref (ad 100))] rfl (by decide) rfl dX11_takeNumber_21 ?_
    refine G_iconst hC (v := 0) (by decide) dX11_takeNumber_22 ?_
    refine G_istore_n hC 2 [(2, .int (0 : Int32)), (1, .int q1.2), (0, .ref (ad 100))] rfl (by decide) rfl dX11_takeNumber_23 ?_
    refine G_lv [2, 1, 0] rfl ?_
    exact hL24 FU _ _ _ _ _ e_model e_mtextarr hfr h
  have h := ifn c4 h
  refine G_aload_n hC 0 0 rfl rfl dX11_takeNumber_7 ?_
  refine G_aload_n hC 0 0 rfl rfl dX11_takeNumber_8 ?_
  refine G_get hC inX11 100 (by omega) (v := .int mtexted) e_model rfl 4 (by decide) m124 rfl rfl dX11_takeNumber_9 ?_
  refine G_put hC inX11 tyX11 tyX11_ok nmX11 100 (by omega) e_model rfl 14 (by decide) m154 rfl rfl (ty := .int) rfl rfl rfl (Nat.le_of_ble_eq_true rfl) dX11_takeNumber_12 (fun en3 e_model fr => ?_)
  have e_model : en3 100 = .inr (8, [.ref (ad 101), .ref (ad 102), .ref (ad 103), .ref (ad 104), .int mtexted, .int mundo, .long mabove, .long mbelow, .ref (ad 105), .ref (ad 106), .ref (ad 107), .ref (ad 108), .int mitems, .int q1.2, .int mtexted, .int mtakes, .long mmisses, .long mbest, .ref (ad 109), .long mh]) := e_model
  have e_mtextarr := (fr 104 (by omega)).trans e_mtextarr
  have hfr : ∀ j, (j < 100 ∨ 101 ≤ j) → en3 j = en j := fun j o0 => (fr j (by omega)).trans (hfr j o0)
  refine G_iconst hC (v := (-1)) (by decide) dX11_takeNumber_15 ?_
  have h := Option.some.inj h
  subst h
  exact Kr _ _ _ _ (nar_i _) ⟨rfl, e_model, hfr⟩ dX11_takeNumber_16
def f_X11_takeItem_B165 (mtext : Nat → Int32) (mtexted : Int32)  (miword : Nat → Int32) (miname : Nat → Int64) (mnumber : Nat → Int32) (mitems : Int32) (mat : Int32) (mfault : Int32) : Option ((Nat → Int32) × (Nat → Int64) × (Nat → Int32) × Int32 × Int32 × Int32) := some (miword, miname, mnumber, mitems + (1 : Int32), mat + (1 : Int32), mfault)
def f_X11_takeItem_B157 (mtext : Nat → Int32) (mtexted : Int32)  (miword : Nat → Int32) (miname : Nat → Int64) (mnumber : Nat → Int32) (mitems : Int32) (mat : Int32) (mfault : Int32) : Option ((Nat → Int32) × (Nat → Int64) × (Nat → Int32) × Int32 × Int32 × Int32) := f_X11_takeItem_B165 mtext mtexted miword miname mnumber mitems mat mat
def f_X11_takeItem_B128 (mtext : Nat → Int32) (mtexted : Int32)  (miword : Nat → Int32) (miname : Nat → Int64) (mnumber : Nat → Int32) (mitems : Int32) (mat : Int32) (mfault : Int32) : Option ((Nat → Int32) × (Nat → Int64) × (Nat → Int32) × Int32 × Int32 × Int32) := if mfault = (-1 : Int32) then (Option.bind (f_X11_isEnd mtext mtexted mat) (fun q137 => if q137.1 = 0 then (if q137.2 < 0 ∨ 300 ≤ q137.2.toNatClampNeg then none else (if mtext q137.2.toNatClampNeg = (59 : Int32) then (f_X11_takeItem_B165 mtext mtexted miword miname mnumber mitems q137.2 mfault) else (f_X11_takeItem_B157 mtext mtexted miword miname mnumber mitems q137.2 mfault))) else (f_X11_takeItem_B157 mtext mtexted miword miname mnumber mitems q137.2 mfault))) else (f_X11_takeItem_B165 mtext mtexted miword miname mnumber mitems mat mfault)
def f_X11_takeItem_L89 (mtext : Nat → Int32) (mtexted : Int32)  : Nat → (Nat → Int32) → (Nat → Int64) → (Nat → Int32) → Int32 → Int32 → Int32 → Int32 → Int32 → Option ((Nat → Int32) × (Nat → Int64) × (Nat → Int32) × Int32 × Int32 × Int32)
  | 0, _, _, _, _, _, _, _, _ => none
  | fu + 1, miword, miname, mnumber, mitems, mat, mfault, x2, x3 => Option.bind (f_X11_numbersOf x2) (fun q91 => if q91 ≤ x3 then (f_X11_takeItem_B128 mtext mtexted miword miname mnumber mitems mat mfault) else (if mfault = (-1 : Int32) then (Option.bind (f_X11_takeNumber mtext mtexted mat mfault) (fun q118 => if ((5 : Int32) * mitems) + x3 < 0 ∨ 300 ≤ (((5 : Int32) * mitems) + x3).toNatClampNeg then none else (f_X11_takeItem_L89 mtext mtexted fu miword miname (upd mnumber (((5 : Int32) * mitems) + x3).toNatClampNeg q118.1) mitems q118.2.1 q118.2.2 x2 (x3 + (1 : Int32))))) else (f_X11_takeItem_B128 mtext mtexted miword miname mnumber mitems mat mfault)))
def f_X11_takeItem_B87 (mtext : Nat → Int32) (mtexted : Int32)  (miword : Nat → Int32) (miname : Nat → Int64) (mnumber : Nat → Int32) (mitems : Int32) (mat : Int32) (mfault : Int32) (x2 : Int32) : Option ((Nat → Int32) × (Nat → Int64) × (Nat → Int32) × Int32 × Int32 × Int32) := f_X11_takeItem_L89 mtext mtexted FU miword miname mnumber mitems mat mfault x2 (0 : Int32)
def f_X11_takeItem_B84 (mtext : Nat → Int32) (mtexted : Int32)  (miword : Nat → Int32) (miname : Nat → Int64) (mnumber : Nat → Int32) (mitems : Int32) (mat : Int32) (mfault : Int32) (x2 : Int32) (s1 : Int32) : Option ((Nat → Int32) × (Nat → Int64) × (Nat → Int32) × Int32 × Int32 × Int32) := f_X11_takeItem_B87 mtext mtexted miword miname mnumber mitems mat s1 x2
def f_X11_takeItem_B27 (mtext : Nat → Int32) (mtexted : Int32)  (miword : Nat → Int32) (miname : Nat → Int64) (mnumber : Nat → Int32) (mitems : Int32) (mat : Int32) (mfault : Int32) (x2 : Int32) (s1 : Int32) : Option ((Nat → Int32) × (Nat → Int64) × (Nat → Int32) × Int32 × Int32 × Int32) := if mitems < 0 ∨ 60 ≤ mitems.toNatClampNeg then none else (if x2 = 0 then (Option.bind (f_X11_isEnd mtext mtexted mat) (fun q45 => Option.bind (f_X11_takeLetters mtext mtexted q45.2) (fun q63 => if mitems < 0 ∨ 60 ≤ mitems.toNatClampNeg then none else (if q63.2 = q45.2 then (f_X11_takeItem_B84 mtext mtexted (upd miword mitems.toNatClampNeg x2) (vp_updL miname mitems.toNatClampNeg q63.1) mnumber mitems q63.2 s1 x2 q45.2) else (f_X11_takeItem_B84 mtext mtexted (upd miword mitems.toNatClampNeg x2) (vp_updL miname mitems.toNatClampNeg q63.1) mnumber mitems q63.2 s1 x2 s1))))) else (f_X11_takeItem_B87 mtext mtexted (upd miword mitems.toNatClampNeg x2) miname mnumber mitems mat s1 x2))
def f_X11_takeItem (mtext : Nat → Int32) (mtexted : Int32) (miword : Nat → Int32) (miname : Nat → Int64) (mnumber : Nat → Int32) (mitems : Int32) (mat : Int32) (mfault : Int32)  : Option ((Nat → Int32) × (Nat → Int64) × (Nat → Int32) × Int32 × Int32 × Int32) := Option.bind (f_X11_takeLetters mtext mtexted mat) (fun q6 => Option.bind (f_X11_wordOf q6.1) (fun q9 => if q9 = (-1 : Int32) then (f_X11_takeItem_B27 mtext mtexted miword miname mnumber mitems q6.2 mfault q9 mat) else (f_X11_takeItem_B27 mtext mtexted miword miname mnumber mitems q6.2 mfault q9 mfault)))
set_option maxHeartbeats 4000000 in
set_option maxRecDepth 100000 in
theorem c_X11_takeItem {D : va_G} {cs : Nat → ClassId} {sa : Nat → Nat} {n : Nat} {ad : Nat → Nat} {A : Nat → Prop} (l : Launch) {en : Nat → va_E}  {mtext : Nat → Int32} {mtexted : Int32} {mundo : Int32} {mabove : Int64} {mbelow : Int64} {miword : Nat → Int32} {miname : Nat → Int64} {mnumber : Nat → Int32} {mitems : Int32} {mat : Int32} {mfault : Int32} {mtakes : Int32} {mmisses : Int64} {mbest : Int64} {mh : Int64}   {q : (Nat → Int32) × (Nat → Int64) × (Nat → Int32) × Int32 × Int32 × Int32} (hn : 110 ≤ n) (e_model : en 100 = .inr (8, [.ref (ad 101), .ref (ad 102), .ref (ad 103), .ref (ad 104), .int mtexted, .int mundo, .long mabove, .long mbelow, .ref (ad 105), .ref (ad 106), .ref (ad 107), .ref (ad 108), .int mitems, .int mat, .int mfault, .int mtakes, .long mmisses, .long mbest, .ref (ad 109), .long mh])) (e_mtextarr : en 104 = .inl (cs 1, 300, .inl (mtext))) (e_miwordarr : en 106 = .inl (cs 1, 60, .inl (miword))) (e_minamearr : en 107 = .inl (cs 2, 60, .inr (.inl (miname)))) (e_mnumberarr : en 108 = .inl (cs 1, 300, .inl (mnumber))) (h : f_X11_takeItem mtext mtexted miword miname mnumber mitems mat mfault = some q) : Met l yX11_takeItem wsX11_takeItem { frames := 2, cells := 0, slots := 0, locals := 48 } (va_Pc [.ref (ad 100)] (Wd D cs sa n ad A en)) (va_Qv (fun u => u 100 = .inr (8, [.ref (ad 101), .ref (ad 102), .ref (ad 103), .ref (ad 104), .int mtexted, .int mundo, .long mabove, .long mbelow, .ref (ad 105), .ref (ad 106), .ref (ad 107), .ref (ad 108), .int q.2.2.2.1, .int q.2.2.2.2.1, .int q.2.2.2.2.2, .int mtakes, .long mmisses, .long mbest, .ref (ad 109), .long mh]) ∧ u 106 = .inl (cs 1, 60, .inl (q.1)) ∧ u 107 = .inl (cs 2, 60, .inr (.inl (q.2.1))) ∧ u 108 = .inl (cs 1, 300, .inl (q.2.2.1)) ∧ (∀ j, (j < 100 ∨ 101 ≤ j) → (j < 106 ∨ 107 ≤ j) → (j < 107 ∨ 108 ≤ j) → (j < 108 ∨ 109 ≤ j) → u j = en j)) (Wd D cs sa n ad A) A) 0 0 A := by
  refine G_startV cX11_takeItem 4 [(0, .ref (ad 100))] (by decide) rfl (Nat.le_of_ble_eq_true rfl) rfl ?_
  intro p e s m args below meth c Q hC hnm Kr
  have inX11 : ∀ w ∈ u_ws RX11 TX11 20, w ∈ wsX11_takeItem := by decide +kernel
  have m129 : Cond.fieldLink RX11 129 "TongueTipModel" "at" "I" ∈ wsX11_takeItem := by decide +kernel
  have m154 : Cond.fieldLink RX11 154 "TongueTipModel" "fault" "I" ∈ wsX11_takeItem := by decide +kernel
  have m168 : Cond.fieldLink RX11 168 "TongueTipModel" "items" "I" ∈ wsX11_takeItem := by decide +kernel
  have m21 : Cond.fieldLink RX11 21 "TongueTipModel" "text" "[I" ∈ wsX11_takeItem := by decide +kernel
  have m31 : Cond.fieldLink RX11 31 "TongueTipModel" "itemWord" "[I" ∈ wsX11_takeItem := by decide +kernel
  have m34 : Cond.fieldLink RX11 34 "TongueTipModel" "itemName" "[J" ∈ wsX11_takeItem := by decide +kernel
  have m37 : Cond.fieldLink RX11 37 "TongueTipModel" "number" "[I" ∈ wsX11_takeItem := by decide +kernel
  have hB165 : ∀ (en1 : Nat → va_E) (miword : Nat → Int32) (miname : Nat → Int64) (mnumber : Nat → Int32) (mitems : Int32) (mat : Int32) (mfault : Int32), en1 100 = .inr (8, [.ref (ad 101), .ref (ad 102), .ref (ad 103), .ref (ad 104), .int mtexted, .int mundo, .long mabove, .long mbelow, .ref (ad 105), .ref (ad 106), .ref (ad 107), .ref (ad 108), .int mitems, .int mat, .int mfault, .int mtakes, .long mmisses, .long mbest, .ref (ad 109), .long mh]) → en1 104 = .inl (cs 1, 300, .inl (mtext)) → en1 106 = .inl (cs 1, 60, .inl (miword)) → en1 107 = .inl (cs 2, 60, .inr (.inl (miname))) → en1 108 = .inl (cs 1, 300, .inl (mnumber)) → (∀ j, (j < 100 ∨ 101 ≤ j) → (j < 106 ∨ 107 ≤ j) → (j < 107 ∨ 108 ≤ j) → (j < 108 ∨ 109 ≤ j) → en1 j = en j) → f_X11_takeItem_B165 mtext mtexted miword miname mnumber mitems mat mfault = some q → G p l e ({ frames := 2, cells := 0, slots := 0, locals := 48 } : Room) s m args below meth c D n ad A 4 0 0 Q en1 165 [(0, .ref (ad 100))] [] := by
    intro en1 miword miname mnumber mitems mat mfault e_model e_mtextarr e_miwordarr e_minamearr e_mnumberarr hfr h
    unfold f_X11_takeItem_B165 at h
    refine G_aload_n hC 0 0 rfl rfl dX11_takeItem_165 ?_
    refine G_dup hC rfl dX11_takeItem_166 ?_
    refine G_get hC inX11 100 (by omega) (v := .int mat) e_model rfl 13 (by decide) m129 rfl rfl dX11_takeItem_167 ?_
    refine G_iconst hC (v := 1) (by decide) dX11_takeItem_170 ?_
    refine G_iadd hC dX11_takeItem_171 ?_
    refine G_put hC inX11 tyX11 tyX11_ok nmX11 100 (by omega) e_model rfl 13 (by decide) m129 rfl rfl (ty := .int) rfl rfl rfl (Nat.le_of_ble_eq_true rfl) dX11_takeItem_172 (fun en2 e_model fr => ?_)
    have e_model : en2 100 = .inr (8, [.ref (ad 101), .ref (ad 102), .ref (ad 103), .ref (ad 104), .int mtexted, .int mundo, .long mabove, .long mbelow, .ref (ad 105), .ref (ad 106), .ref (ad 107), .ref (ad 108), .int mitems, .int (mat + (1 : Int32)), .int mfault, .int mtakes, .long mmisses, .long mbest, .ref (ad 109), .long mh]) := e_model
    have e_mtextarr := (fr 104 (by omega)).trans e_mtextarr
    have e_miwordarr := (fr 106 (by omega)).trans e_miwordarr
    have e_minamearr := (fr 107 (by omega)).trans e_minamearr
    have e_mnumberarr := (fr 108 (by omega)).trans e_mnumberarr
    have hfr : ∀ j, (j < 100 ∨ 101 ≤ j) → (j < 106 ∨ 107 ≤ j) → (j < 107 ∨ 108 ≤ j) → (j < 108 ∨ 109 ≤ j) → en2 j = en j := fun j o0 o1 o2 o3 => (fr j (by omega)).trans (hfr j o0 o1 o2 o3)
    refine G_aload_n hC 0 0 rfl rfl dX11_takeItem_175 ?_
    refine G_dup hC rfl dX11_takeItem_176 ?_
    refine G_get hC inX11 100 (by omega) (v := .int mitems) e_model rfl 12 (by decide) m168 rfl rfl dX11_takeItem_177 ?_
    refine G_iconst hC (v := 1) (by decide) dX11_takeItem_180 ?_
    refine G_iadd hC dX11_takeItem_181 ?_
    refine G_put hC inX11 tyX11 tyX11_ok nmX11 100 (by omega) e_model rfl 12 (by decide) m168 rfl rfl (ty := .int) rfl rfl rfl (Nat.le_of_ble_eq_true rfl) dX11_takeItem_182 (fun en3 e_model fr => ?_)
    have e_model : en3 100 = .inr (8, [.ref (ad 101), .ref (ad 102), .ref (ad 103), .ref (ad 104), .int mtexted, .int mundo, .long mabove, .long mbelow, .ref (ad 105), .ref (ad 106), .ref (ad 107), .ref (ad 108), .int (mitems + (1 : Int32)), .int (mat + (1 : Int32)), .int mfault, .int mtakes, .long mmisses, .long mbest, .ref (ad 109), .long mh]) := e_model
    have e_mtextarr := (fr 104 (by omega)).trans e_mtextarr
    have e_miwordarr := (fr 106 (by omega)).trans e_miwordarr
    have e_minamearr := (fr 107 (by omega)).trans e_minamearr
    have e_mnumberarr := (fr 108 (by omega)).trans e_mnumberarr
    have hfr : ∀ j, (j < 100 ∨ 101 ≤ j) → (j < 106 ∨ 107 ≤ j) → (j < 107 ∨ 108 ≤ j) → (j < 108 ∨ 109 ≤ j) → en3 j = en j := fun j o0 o1 o2 o3 => (fr j (by omega)).trans (hfr j o0 o1 o2 o3)
    have h := Option.some.inj h
    subst h
    exact Kr _ _ _ ⟨e_model, e_miwordarr, e_minamearr, e_mnumberarr, hfr⟩ dX11_takeItem_185
  have hB157 : ∀ (en1 : Nat → va_E) (miword : Nat → Int32) (miname : Nat → Int64) (mnumber : Nat → Int32) (mitems : Int32) (mat : Int32) (mfault : Int32), en1 100 = .inr (8, [.ref (ad 101), .ref (ad 102), .ref (ad 103), .ref (ad 104), .int mtexted, .int mundo, .long mabove, .long mbelow, .ref (ad 105), .ref (ad 106), .ref (ad 107), .ref (ad 108), .int mitems, .int mat, .int mfault, .int mtakes, .long mmisses, .long mbest, .ref (ad 109), .long mh]) → en1 104 = .inl (cs 1, 300, .inl (mtext)) → en1 106 = .inl (cs 1, 60, .inl (miword)) → en1 107 = .inl (cs 2, 60, .inr (.inl (miname))) → en1 108 = .inl (cs 1, 300, .inl (mnumber)) → (∀ j, (j < 100 ∨ 101 ≤ j) → (j < 106 ∨ 107 ≤ j) → (j < 107 ∨ 108 ≤ j) → (j < 108 ∨ 109 ≤ j) → en1 j = en j) → f_X11_takeItem_B157 mtext mtexted miword miname mnumber mitems mat mfault = some q → G p l e ({ frames := 2, cells := 0, slots := 0, locals := 48 } : Room) s m args below meth c D n ad A 4 0 0 Q en1 157 [(0, .ref (ad 100))] [] := by
    intro en1 miword miname mnumber mitems mat mfault e_model e_mtextarr e_miwordarr e_minamearr e_mnumberarr hfr h
    unfold f_X11_takeItem_B157 at h
    refine G_aload_n hC 0 0 rfl rfl dX11_takeItem_157 ?_
    refine G_aload_n hC 0 0 rfl rfl dX11_takeItem_158 ?_
    refine G_get hC inX11 100 (by omega) (v := .int mat) e_model rfl 13 (by decide) m129 rfl rfl dX11_takeItem_159 ?_
    refine G_put hC inX11 tyX11 tyX11_ok nmX11 100 (by omega) e_model rfl 14 (by decide) m154 rfl rfl (ty := .int) rfl rfl rfl (Nat.le_of_ble_eq_true rfl) dX11_takeItem_162 (fun en2 e_model fr => ?_)
    have e_model : en2 100 = .inr (8, [.ref (ad 101), .ref (ad 102), .ref (ad 103), .ref (ad 104), .int mtexted, .int mundo, .long mabove, .long mbelow, .ref (ad 105), .ref (ad 106), .ref (ad 107), .ref (ad 108), .int mitems, .int mat, .int mat, .int mtakes, .long mmisses, .long mbest, .ref (ad 109), .long mh]) := e_model
    have e_mtextarr := (fr 104 (by omega)).trans e_mtextarr
    have e_miwordarr := (fr 106 (by omega)).trans e_miwordarr
    have e_minamearr := (fr 107 (by omega)).trans e_minamearr
    have e_mnumberarr := (fr 108 (by omega)).trans e_mnumberarr
    have hfr : ∀ j, (j < 100 ∨ 101 ≤ j) → (j < 106 ∨ 107 ≤ j) → (j < 107 ∨ 108 ≤ j) → (j < 108 ∨ 109 ≤ j) → en2 j = en j := fun j o0 o1 o2 o3 => (fr j (by omega)).trans (hfr j o0 o1 o2 o3)
    refine G_lv [0] rfl ?_
    exact hB165 _ _ _ _ _ _ _ e_model e_mtextarr e_miwordarr e_minamearr e_mnumberarr hfr h
  have hB128 : ∀ (en1 : Nat → va_E) (miword : Nat → Int32) (miname : Nat → Int64) (mnumber : Nat → Int32) (mitems : Int32) (mat : Int32) (mfault : Int32), en1 100 = .inr (8, [.ref (ad 101), .ref (ad 102), .ref (ad 103), .ref (ad 104), .int mtexted, .int mundo, .long mabove, .long mbelow, .ref (ad 105), .ref (ad 106), .ref (ad 107), .ref (ad 108), .int mitems, .int mat, .int mfault, .int mtakes, .long mmisses, .long mbest, .ref (ad 109), .long mh]) → en1 104 = .inl (cs 1, 300, .inl (mtext)) → en1 106 = .inl (cs 1, 60, .inl (miword)) → en1 107 = .inl (cs 2, 60, .inr (.inl (miname))) → en1 108 = .inl (cs 1, 300, .inl (mnumber)) → (∀ j, (j < 100 ∨ 101 ≤ j) → (j < 106 ∨ 107 ≤ j) → (j < 107 ∨ 108 ≤ j) → (j < 108 ∨ 109 ≤ j) → en1 j = en j) → f_X11_takeItem_B128 mtext mtexted miword miname mnumber mitems mat mfault = some q → G p l e ({ frames := 2, cells := 0, slots := 0, locals := 48 } : Room) s m args below meth c D n ad A 4 0 0 Q en1 128 [(0, .ref (ad 100))] [] := by
    intro en1 miword miname mnumber mitems mat mfault e_model e_mtextarr e_miwordarr e_minamearr e_mnumberarr hfr h
    unfold f_X11_takeItem_B128 at h
    refine G_aload_n hC 0 0 rfl rfl dX11_takeItem_128 ?_
    refine G_get hC inX11 100 (by omega) (v := .int mfault) e_model rfl 14 (by decide) m154 rfl rfl dX11_takeItem_129 ?_
    refine G_iconst hC (v := (-1)) (by decide) dX11_takeItem_132 ?_
    refine G_icmp_ne hC 165 dX11_takeItem_133 (by decide) (fun c133 => ?_) (fun c133 => ?_)
    · have h := ifn c133 h
      refine G_lv [0] rfl ?_
      exact hB165 _ _ _ _ _ _ _ e_model e_mtextarr e_miwordarr e_minamearr e_mnumberarr hfr h
    have h := ifp c133 h
    refine G_aload_n hC 0 0 rfl rfl dX11_takeItem_136 ?_
    obtain ⟨q137, h137, h⟩ := bnd h
    refine G_cVi (st := []) hC _ 100 (by omega) (c_X11_isEnd  l (by omega) e_model e_mtextarr h137) (cwV 0 hC.hts gX11_takeItem_X11_isEnd rfl rfl rfl (by decide +kernel) ⟨Nat.le_of_ble_eq_true rfl, Nat.le_of_ble_eq_true rfl⟩) e_model rfl rfl (Nat.le_of_ble_eq_true rfl) (Nat.zero_le _) (Nat.zero_le _) rfl dX11_takeItem_137 (fun r137 en2 hw => ?_)
    obtain ⟨rfl, e_model, fr⟩ := hw
    have e_mtextarr := (fr 104 (by omega)).trans e_mtextarr
    have e_miwordarr := (fr 106 (by omega)).trans e_miwordarr
    have e_minamearr := (fr 107 (by omega)).trans e_minamearr
    have e_mnumberarr := (fr 108 (by omega)).trans e_mnumberarr
    have hfr : ∀ j, (j < 100 ∨ 101 ≤ j) → (j < 106 ∨ 107 ≤ j) → (j < 107 ∨ 108 ≤ j) → (j < 108 ∨ 109 ≤ j) → en2 j = en j := fun j o0 o1 o2 o3 => (fr j (by omega)).trans (hfr j o0 o1 o2 o3)
    refine G_if_ne hC 157 dX11_takeItem_140 (by decide) (fun c140 => ?_) (fun c140 => ?_)
    · have h := ifn c140 h
      refine G_lv [0] rfl ?_
      exact hB157 _ _ _ _ _ _ _ e_model e_mtextarr e_miwordarr e_minamearr e_mnumberarr hfr h
    have h := ifp c140 h
    refine G_aload_n hC 0 0 rfl rfl dX11_takeItem_143 ?_
    refine G_get hC inX11 100 (by omega) (v := .ref (ad 104)) e_model rfl 3 (by decide) m21 rfl rfl dX11_takeItem_144 ?_
    refine G_aload_n hC 0 0 rfl rfl dX11_takeItem_147 ?_
    refine G_get hC inX11 100 (by omega) (v := .int q137.2) e_model rfl 13 (by decide) m129 rfl rfl dX11_takeItem_148 ?_
    obtain ⟨g151, h⟩ := asn h
    refine G_iald hC 104 (by omega) e_mtextarr g151 dX11_takeItem_151 ?_
    refine G_bipush hC (v := 59) (by decide) dX11_takeItem_152 ?_
    refine G_icmp_eq hC 165 dX11_takeItem_154 (by decide) (fun c154 => ?_) (fun c154 => ?_)
    · have h := ifp c154 h
      refine G_lv [0] rfl ?_
      exact hB165 _ _ _ _ _ _ _ e_model e_mtextarr e_miwordarr e_minamearr e_mnumberarr hfr h
    have h := ifn c154 h
    refine G_lv [0] rfl ?_
    exact hB157 _ _ _ _ _ _ _ e_model e_mtextarr e_miwordarr e_minamearr e_mnumberarr hfr h
  have hL89 : ∀ (fu89 : Nat), ∀ (en1 : Nat → va_E) (miword : Nat → Int32) (miname : Nat → Int64) (mnumber : Nat → Int32) (mitems : Int32) (mat : Int32) (mfault : Int32) (x2 : Int32) (x3 : Int32), en1 100 = .inr (8, [.ref (ad 101), .ref (ad 102), .ref (ad 103), .ref (ad 104), .int mtexted, .int mundo, .long mabove, .long mbelow, .ref (ad 105), .ref (ad 106), .ref (ad 107), .ref (ad 108), .int mitems, .int mat, .int mfault, .int mtakes, .long mmisses, .long mbest, .ref (ad 109), .long mh]) → en1 104 = .inl (cs 1, 300, .inl (mtext)) → en1 106 = .inl (cs 1, 60, .inl (miword)) → en1 107 = .inl (cs 2, 60, .inr (.inl (miname))) → en1 108 = .inl (cs 1, 300, .inl (mnumber)) → (∀ j, (j < 100 ∨ 101 ≤ j) → (j < 106 ∨ 107 ≤ j) → (j < 107 ∨ 108 ≤ j) → (j < 108 ∨ 109 ≤ j) → en1 j = en j) → f_X11_takeItem_L89 mtext mtexted fu89 miword miname mnumber mitems mat mfault x2 x3 = some q → G p l e ({ frames := 2, cells := 0, slots := 0, locals := 48 } : Room) s m args below meth c D n ad A 4 0 0 Q en1 89 [(0, .ref (ad 100)), (2, .int x2), (3, .int x3)] [] := by
    intro fu89
    induction fu89 with
    | zero =>
      intro en1 miword miname mnumber mitems mat mfault x2 x3 e_model e_mtextarr e_miwordarr e_minamearr e_mnumberarr hfr h
      rw [f_X11_takeItem_L89] at h
      cases h
    | succ fu89 ih89 =>
      intro en1 miword miname mnumber mitems mat mfault x2 x3 e_model e_mtextarr e_miwordarr e_minamearr e_mnumberarr hfr h
      rw [f_X11_takeItem_L89] at h
      refine G_iload_n hC 3 2 rfl rfl dX11_takeItem_89 ?_
      refine G_iload_n hC 2 1 rfl rfl dX11_takeItem_90 ?_
      obtain ⟨q91, h91, h⟩ := bnd h
      refine G_cSi (st := [.int x3]) hC _ (c_X11_numbersOf  l  h91) (va_cwS 1 hC.hts gX11_takeItem_X11_numbersOf rfl rfl rfl (by decide +kernel) ⟨Nat.le_of_ble_eq_true rfl, Nat.le_of_ble_eq_true rfl⟩) rfl (Nat.le_of_ble_eq_true rfl) (Nat.zero_le _) (Nat.zero_le _) rfl dX11_takeItem_91 (fun r91 enx hw => ?_)
      obtain ⟨rfl, rfl⟩ := hw
      refine G_icmp_ge hC 128 dX11_takeItem_94 (by decide) (fun c94 => ?_) (fun c94 => ?_)
      · have h := ifp c94 h
        refine G_lv [0] rfl ?_
        exact hB128 _ _ _ _ _ _ _ e_model e_mtextarr e_miwordarr e_minamearr e_mnumberarr hfr h
      have h := ifn c94 h
      refine G_aload_n hC 0 0 rfl rfl dX11_takeItem_97 ?_
      refine G_get hC inX11 100 (by omega) (v := .int mfault) e_model rfl 14 (by decide) m154 rfl rfl dX11_takeItem_98 ?_
      refine G_iconst hC (v := (-1)) (by decide) dX11_takeItem_101 ?_
      refine G_icmp_ne hC 128 dX11_takeItem_102 (by decide) (fun c102 => ?_) (fun c102 => ?_)
      · have h := ifn c102 h
        refine G_lv [0] rfl ?_
        exact hB128 _ _ _ _ _ _ _ e_model e_mtextarr e_miwordarr e_minamearr e_mnumberarr hfr h
      have h := ifp c102 h
      refine G_aload_n hC 0 0 rfl rfl dX11_takeItem_105 ?_
      refine G_get hC inX11 100 (by omega) (v := .ref (ad 108)) e_model rfl 11 (by decide) m37 rfl rfl dX11_takeItem_106 ?_
      refine G_iconst hC (v := 5) (by decide) dX11_takeItem_109 ?_
      refine G_aload_n hC 0 0 rfl rfl dX11_takeItem_110 ?_
      refine G_get hC inX11 100 (by omega) (v := .int mitems) e_model rfl 12 (by decide) m168 rfl rfl dX11_takeItem_111 ?_
      refine G_imul hC dX11_takeItem_114 ?_
      refine G_iload_n hC 3 2 rfl rfl dX11_takeItem_115 ?_
      refine G_iadd hC dX11_takeItem_116 ?_
      refine G_aload_n hC 0 0 rfl rfl dX11_takeItem_117 ?_
      obtain ⟨q118, h118, h⟩ := bnd h
      refine G_cVi (st := [.int (((5 : Int32) * mitems) + x3), .ref (ad 108)]) hC _ 100 (by omega) (c_X11_takeNumber  l (by omega) e_model e_mtextarr h118) (cwV 0 hC.hts gX11_takeItem_X11_takeNumber rfl rfl rfl (by decide +kernel) ⟨Nat.le_of_ble_eq_true rfl, Nat.le_of_ble_eq_true rfl⟩) e_model rfl rfl (Nat.le_of_ble_eq_true rfl) (Nat.zero_le _) (Nat.zero_le _) rfl dX11_takeItem_118 (fun r118 en2 hw => ?_)
      obtain ⟨rfl, e_model, fr⟩ := hw
      have e_mtextarr := (fr 104 (by omega)).trans e_mtextarr
      have e_miwordarr := (fr 106 (by omega)).trans e_miwordarr
      have e_minamearr := (fr 107 (by omega)).trans e_minamearr
      have e_mnumberarr := (fr 108 (by omega)).trans e_mnumberarr
      have hfr : ∀ j, (j < 100 ∨ 101 ≤ j) → (j < 106 ∨ 107 ≤ j) → (j < 107 ∨ 108 ≤ j) → (j < 108 ∨ 109 ≤ j) → en2 j = en j := fun j o0 o1 o2 o3 => (fr j (by omega)).trans (hfr j o0 o1 o2 o3)
      obtain ⟨g121, h⟩ := asn h
      refine G_iast hC 108 (by omega) e_mnumberarr g121 dX11_takeItem_121 (fun en3 e_mnumberarr fr => ?_)
      have e_mnumberarr : en3 108 = .inl (cs 1, 300, .inl (upd mnumber (((5 : Int32) * mitems) + x3).toNatClampNeg q118.1)) := e_mnumberarr
      have e_model := (fr 100 (by omega)).trans e_model
      have e_mtextarr := (fr 104 (by omega)).trans e_mtextarr
      have e_miwordarr := (fr 106 (by omega)).trans e_miwordarr
      have e_minamearr := (fr 107 (by omega)).trans e_minamearr
      have hfr : ∀ j, (j < 100 ∨ 101 ≤ j) → (j < 106 ∨ 107 ≤ j) → (j < 107 ∨ 108 ≤ j) → (j < 108 ∨ 109 ≤ j) → en3 j = en j := fun j o0 o1 o2 o3 => (fr j (by omega)).trans (hfr j o0 o1 o2 o3)
      refine G_iinc hC 3 2 [(3, .int (x3 + (1 : Int32))), (0, .ref (ad 100)), (2, .int x2)] rfl rfl (by decide) rfl dX11_takeItem_122 ?_
      refine G_goto hC 89 dX11_takeItem_125 (by decide) ?_
      refine G_lv [1, 2, 0] rfl ?_
      exact ih89 _ _ _ _ _ _ _ _ _ e_model e_mtextarr e_miwordarr e_minamearr e_mnumberarr hfr h
  have hB87 : ∀ (en1 : Nat → va_E) (miword : Nat → Int32) (miname : Nat → Int64) (mnumber : Nat → Int32) (mitems : Int32) (mat : Int32) (mfault : Int32) (x2 : Int32), en1 100 = .inr (8, [.ref (ad 101), .ref (ad 102), .ref (ad 103), .ref (ad 104), .int mtexted, .int mundo, .long mabove, .long mbelow, .ref (ad 105), .ref (ad 106), .ref (ad 107), .ref (ad 108), .int mitems, .int mat, .int mfault, .int mtakes, .long mmisses, .long mbest, .ref (ad 109), .long mh]) → en1 104 = .inl (cs 1, 300, .inl (mtext)) → en1 106 = .inl (cs 1, 60, .inl (miword)) → en1 107 = .inl (cs 2, 60, .inr (.inl (miname))) → en1 108 = .inl (cs 1, 300, .inl (mnumber)) → (∀ j, (j < 100 ∨ 101 ≤ j) → (j < 106 ∨ 107 ≤ j) → (j < 107 ∨ 108 ≤ j) → (j < 108 ∨ 109 ≤ j) → en1 j = en j) → f_X11_takeItem_B87 mtext mtexted miword miname mnumber mitems mat mfault x2 = some q → G p l e ({ frames := 2, cells := 0, slots := 0, locals := 48 } : Room) s m args below meth c D n ad A 4 0 0 Q en1 87 [(0, .ref (ad 100)), (2, .int x2)] [] := by
    intro en1 miword miname mnumber mitems mat mfault x2 e_model e_mtextarr e_miwordarr e_minamearr e_mnumberarr hfr h
    unfold f_X11_takeItem_B87 at h
    refine G_iconst hC (v := 0) (by decide) dX11_takeItem_87 ?_
    refine G_istore_n hC 3 [(3, .int (0 : Int32)), (0, .ref (ad 100)), (2, .int x2)] rfl (by decide) rfl dX11_takeItem_88 ?_
    refine G_lv [1, 2, 0] rfl ?_
    exact hL89 FU _ _ _ _ _ _ _ _ _ e_model e_mtextarr e_miwordarr e_minamearr e_mnumberarr hfr h
  have hB84 : ∀ (en1 : Nat → va_E) (miword : Nat → Int32) (miname : Nat → Int64) (mnumber : Nat → Int32) (mitems : Int32) (mat : Int32) (mfault : Int32) (x2 : Int32) (s1 : Int32), en1 100 = .inr (8, [.ref (ad 101), .ref (ad 102), .ref (ad 103), .ref (ad 104), .int mtexted, .int mundo, .long mabove, .long mbelow, .ref (ad 105), .ref (ad 106), .ref (ad 107), .ref (ad 108), .int mitems, .int mat, .int mfault, .int mtakes, .long mmisses, .long mbest, .ref (ad 109), .long mh]) → en1 104 = .inl (cs 1, 300, .inl (mtext)) → en1 106 = .inl (cs 1, 60, .inl (miword)) → en1 107 = .inl (cs 2, 60, .inr (.inl (miname))) → en1 108 = .inl (cs 1, 300, .inl (mnumber)) → (∀ j, (j < 100 ∨ 101 ≤ j) → (j < 106 ∨ 107 ≤ j) → (j < 107 ∨ 108 ≤ j) → (j < 108 ∨ 109 ≤ j) → en1 j = en j) → f_X11_takeItem_B84 mtext mtexted miword miname mnumber mitems mat mfault x2 s1 = some q → G p l e ({ frames := 2, cells := 0, slots := 0, locals := 48 } : Room) s m args below meth c D n ad A 4 0 0 Q en1 84 [(0, .ref (ad 100)), (2, .int x2)] [.int s1, .ref (ad 100)] := by
    intro en1 miword miname mnumber mitems mat mfault x2 s1 e_model e_mtextarr e_miwordarr e_minamearr e_mnumberarr hfr h
    unfold f_X11_takeItem_B84 at h
    refine G_put hC inX11 tyX11 tyX11_ok nmX11 100 (by omega) e_model rfl 14 (by decide) m154 rfl rfl (ty := .int) rfl rfl rfl (Nat.le_of_ble_eq_true rfl) dX11_takeItem_84 (fun en2 e_model fr => ?_)
    have e_model : en2 100 = .inr (8, [.ref (ad 101), .ref (ad 102), .ref (ad 103), .ref (ad 104), .int mtexted, .int mundo, .long mabove, .long mbelow, .ref (ad 105), .ref (ad 106), .ref (ad 107), .ref (ad 108), .int mitems, .int mat, .int s1, .int mtakes, .long mmisses, .long mbest, .ref (ad 109), .long mh]) := e_model
    have e_mtextarr := (fr 104 (by omega)).trans e_mtextarr
    have e_miwordarr := (fr 106 (by omega)).trans e_miwordarr
    have e_minamearr := (fr 107 (by omega)).trans e_minamearr
    have e_mnumberarr := (fr 108 (by omega)).trans e_mnumberarr
    have hfr : ∀ j, (j < 100 ∨ 101 ≤ j) → (j < 106 ∨ 107 ≤ j) → (j < 107 ∨ 108 ≤ j) → (j < 108 ∨ 109 ≤ j) → en2 j = en j := fun j o0 o1 o2 o3 => (fr j (by omega)).trans (hfr j o0 o1 o2 o3)
    refine G_lv [0, 1] rfl ?_
    exact hB87 _ _ _ _ _ _ _ _ e_model e_mtextarr e_miwordarr e_minamearr e_mnumberarr hfr h
  have hB27 : ∀ (en1 : Nat → va_E) (miword : Nat → Int32) (miname : Nat → Int64) (mnumber : Nat → Int32) (mitems : Int32) (mat : Int32) (mfault : Int32) (x2 : Int32) (s1 : Int32), en1 100 = .inr (8, [.ref (ad 101), .ref (ad 102), .ref (ad 103), .ref (ad 104), .int mtexted, .int mundo, .long mabove, .long mbelow, .ref (ad 105), .ref (ad 106), .ref (ad 107), .ref (ad 108), .int mitems, .int mat, .int mfault, .int mtakes, .long mmisses, .long mbest, .ref (ad 109), .long mh]) → en1 104 = .inl (cs 1, 300, .inl (mtext)) → en1 106 = .inl (cs 1, 60, .inl (miword)) → en1 107 = .inl (cs 2, 60, .inr (.inl (miname))) → en1 108 = .inl (cs 1, 300, .inl (mnumber)) → (∀ j, (j < 100 ∨ 101 ≤ j) → (j < 106 ∨ 107 ≤ j) → (j < 107 ∨ 108 ≤ j) → (j < 108 ∨ 109 ≤ j) → en1 j = en j) → f_X11_takeItem_B27 mtext mtexted miword miname mnumber mitems mat mfault x2 s1 = some q → G p l e ({ frames := 2, cells := 0, slots := 0, locals := 48 } : Room) s m args below meth c D n ad A 4 0 0 Q en1 27 [(0, .ref (ad 100)), (2, .int x2)] [.int s1, .ref (ad 100)] := by
    intro en1 miword miname mnumber mitems mat mfault x2 s1 e_model e_mtextarr e_miwordarr e_minamearr e_mnumberarr hfr h
    unfold f_X11_takeItem_B27 at h
    refine G_put hC inX11 tyX11 tyX11_ok nmX11 100 (by omega) e_model rfl 14 (by decide) m154 rfl rfl (ty := .int) rfl rfl rfl (Nat.le_of_ble_eq_true rfl) dX11_takeItem_27 (fun en2 e_model fr => ?_)
    have e_model : en2 100 = .inr (8, [.ref (ad 101), .ref (ad 102), .ref (ad 103), .ref (ad 104), .int mtexted, .int mundo, .long mabove, .long mbelow, .ref (ad 105), .ref (ad 106), .ref (ad 107), .ref (ad 108), .int mitems, .int mat, .int s1, .int mtakes, .long mmisses, .long mbest, .ref (ad 109), .long mh]) := e_model
    have e_mtextarr := (fr 104 (by omega)).trans e_mtextarr
    have e_miwordarr := (fr 106 (by omega)).trans e_miwordarr
    have e_minamearr := (fr 107 (by omega)).trans e_minamearr
    have e_mnumberarr := (fr 108 (by omega)).trans e_mnumberarr
    have hfr : ∀ j, (j < 100 ∨ 101 ≤ j) → (j < 106 ∨ 107 ≤ j) → (j < 107 ∨ 108 ≤ j) → (j < 108 ∨ 109 ≤ j) → en2 j = en j := fun j o0 o1 o2 o3 => (fr j (by omega)).trans (hfr j o0 o1 o2 o3)
    refine G_aload_n hC 0 0 rfl rfl dX11_takeItem_30 ?_
    refine G_get hC inX11 100 (by omega) (v := .ref (ad 106)) e_model rfl 9 (by decide) m31 rfl rfl dX11_takeItem_31 ?_
    refine G_aload_n hC 0 0 rfl rfl dX11_takeItem_34 ?_
    refine G_get hC inX11 100 (by omega) (v := .int mitems) e_model rfl 12 (by decide) m168 rfl rfl dX11_takeItem_35 ?_
    refine G_iload_n hC 2 1 rfl rfl dX11_takeItem_38 ?_
    obtain ⟨g39, h⟩ := asn h
    refine G_iast hC 106 (by omega) e_miwordarr g39 dX11_takeItem_39 (fun en3 e_miwordarr fr => ?_)
    have e_miwordarr : en3 106 = .inl (cs 1, 60, .inl (upd miword mitems.toNatClampNeg x2)) := e_miwordarr
    have e_model := (fr 100 (by omega)).trans e_model
    have e_mtextarr := (fr 104 (by omega)).trans e_mtextarr
    have e_minamearr := (fr 107 (by omega)).trans e_minamearr
    have e_mnumberarr := (fr 108 (by omega)).trans e_mnumberarr
    have hfr : ∀ j, (j < 100 ∨ 101 ≤ j) → (j < 106 ∨ 107 ≤ j) → (j < 107 ∨ 108 ≤ j) → (j < 108 ∨ 109 ≤ j) → en3 j = en j := fun j o0 o1 o2 o3 => (fr j (by omega)).trans (hfr j o0 o1 o2 o3)
    refine G_iload_n hC 2 1 rfl rfl dX11_takeItem_40 ?_
    refine G_if_ne hC 87 dX11_takeItem_41 (by decide) (fun c41 => ?_) (fun c41 => ?_)
    · have h := ifn c41 h
      refine G_lv [0, 1] rfl ?_
      exact hB87 _ _ _ _ _ _ _ _ e_model e_mtextarr e_miwordarr e_minamearr e_mnumberarr hfr h
    have h := ifp c41 h
    refine G_aload_n hC 0 0 rfl rfl dX11_takeItem_44 ?_
    obtain ⟨q45, h45, h⟩ := bnd h
    refine G_cVi (st := []) hC _ 100 (by omega) (c_X11_isEnd  l (by omega) e_model e_mtextarr h45) (cwV 0 hC.hts gX11_takeItem_X11_isEnd rfl rfl rfl (by decide +kernel) ⟨Nat.le_of_ble_eq_true rfl, Nat.le_of_ble_eq_true rfl⟩) e_model rfl rfl (Nat.le_of_ble_eq_true rfl) (Nat.zero_le _) (Nat.zero_le _) rfl dX11_takeItem_45 (fun r45 en4 hw => ?_)
    obtain ⟨rfl, e_model, fr⟩ := hw
    have e_mtextarr := (fr 104 (by omega)).trans e_mtextarr
    have e_miwordarr := (fr 106 (by omega)).trans e_miwordarr
    have e_minamearr := (fr 107 (by omega)).trans e_minamearr
    have e_mnumberarr := (fr 108 (by omega)).trans e_mnumberarr
    have hfr : ∀ j, (j < 100 ∨ 101 ≤ j) → (j < 106 ∨ 107 ≤ j) → (j < 107 ∨ 108 ≤ j) → (j < 108 ∨ 109 ≤ j) → en4 j = en j := fun j o0 o1 o2 o3 => (fr j (by omega)).trans (hfr j o0 o1 o2 o3)
    refine G_pop hC rfl dX11_takeItem_48 ?_
    refine G_aload_n hC 0 0 rfl rfl dX11_takeItem_49 ?_
    refine G_get hC inX11 100 (by omega) (v := .int q45.2) e_model rfl 13 (by decide) m129 rfl rfl dX11_takeItem_50 ?_
    refine G_istore_n hC 1 [(1, .int q45.2), (0, .ref (ad 100)), (2, .int x2)] rfl (by decide) rfl dX11_takeItem_53 ?_
    refine G_aload_n hC 0 1 rfl rfl dX11_takeItem_54 ?_
    refine G_get hC inX11 100 (by omega) (v := .ref (ad 107)) e_model rfl 10 (by decide) m34 rfl rfl dX11_takeItem_55 ?_
    refine G_aload_n hC 0 1 rfl rfl dX11_takeItem_58 ?_
    refine G_get hC inX11 100 (by omega) (v := .int mitems) e_model rfl 12 (by decide) m168 rfl rfl dX11_takeItem_59 ?_
    refine G_aload_n hC 0 1 rfl rfl dX11_takeItem_62 ?_
    obtain ⟨q63, h63, h⟩ := bnd h
    refine G_cVl (st := [.int mitems, .ref (ad 107)]) hC _ 100 (by omega) (c_X11_takeLetters  l (by omega) e_model e_mtextarr h63) (cwV 0 hC.hts gX11_takeItem_X11_takeLetters rfl rfl rfl (by decide +kernel) ⟨Nat.le_of_ble_eq_true rfl, Nat.le_of_ble_eq_true rfl⟩) e_model rfl rfl (Nat.le_of_ble_eq_true rfl) (Nat.zero_le _) (Nat.zero_le _) rfl dX11_takeItem_63 (fun r63 en5 hw => ?_)
    obtain ⟨rfl, e_model, fr⟩ := hw
    have e_mtextarr := (fr 104 (by omega)).trans e_mtextarr
    have e_miwordarr := (fr 106 (by omega)).trans e_miwordarr
    have e_minamearr := (fr 107 (by omega)).trans e_minamearr
    have e_mnumberarr := (fr 108 (by omega)).trans e_mnumberarr
    have hfr : ∀ j, (j < 100 ∨ 101 ≤ j) → (j < 106 ∨ 107 ≤ j) → (j < 107 ∨ 108 ≤ j) → (j < 108 ∨ 109 ≤ j) → en5 j = en j := fun j o0 o1 o2 o3 => (fr j (by omega)).trans (hfr j o0 o1 o2 o3)
    obtain ⟨g66, h⟩ := asn h
    refine G_last hC 107 (by omega) e_minamearr g66 dX11_takeItem_66 (fun en6 e_minamearr fr => ?_)
    have e_minamearr : en6 107 = .inl (cs 2, 60, .inr (.inl (vp_updL miname mitems.toNatClampNeg q63.1))) := e_minamearr
    have e_model := (fr 100 (by omega)).trans e_model
    have e_mtextarr := (fr 104 (by omega)).trans e_mtextarr
    have e_miwordarr := (fr 106 (by omega)).trans e_miwordarr
    have e_mnumberarr := (fr 108 (by omega)).trans e_mnumberarr
    have hfr : ∀ j, (j < 100 ∨ 101 ≤ j) → (j < 106 ∨ 107 ≤ j) → (j < 107 ∨ 108 ≤ j) → (j < 108 ∨ 109 ≤ j) → en6 j = en j := fun j o0 o1 o2 o3 => (fr j (by omega)).trans (hfr j o0 o1 o2 o3)
    refine G_aload_n hC 0 1 rfl rfl dX11_takeItem_67 ?_
    refine G_aload_n hC 0 1 rfl rfl dX11_takeItem_68 ?_
    refine G_get hC inX11 100 (by omega) (v := .int q63.2) e_model rfl 13 (by decide) m129 rfl rfl dX11_takeItem_69 ?_
    refine G_iload_n hC 1 0 rfl rfl dX11_takeItem_72 ?_
    refine G_icmp_ne hC 80 dX11_takeItem_73 (by decide) (fun c73 => ?_) (fun c73 => ?_)
    · have h := ifn c73 h
      refine G_aload_n hC 0 1 rfl rfl dX11_takeItem_80 ?_
      refine G_get hC inX11 100 (by omega) (v := .int s1) e_model rfl 14 (by decide) m154 rfl rfl dX11_takeItem_81 ?_
      refine G_lv [1, 2] rfl ?_
      exact hB84 _ _ _ _ _ _ _ _ _ e_model e_mtextarr e_miwordarr e_minamearr e_mnumberarr hfr h
    have h := ifp c73 h
    refine G_iload_n hC 1 0 rfl rfl dX11_takeItem_76 ?_
    refine G_goto hC 84 dX11_takeItem_77 (by decide) ?_
    refine G_lv [1, 2] rfl ?_
    exact hB84 _ _ _ _ _ _ _ _ _ e_model e_mtextarr e_miwordarr e_minamearr e_mnumberarr hfr h
  unfold f_X11_takeItem at h
  have hfr : ∀ j, (j < 100 ∨ 101 ≤ j) → (j < 106 ∨ 107 ≤ j) → (j < 107 ∨ 108 ≤ j) → (j < 108 ∨ 109 ≤ j) → en j = en j := fun _ _ _ _ _ => rfl
  refine G_aload_n hC 0 0 rfl rfl dX11_takeItem_0 ?_
  refine G_get hC inX11 100 (by omega) (v := .int mat) e_model rfl 13 (by decide) m129 rfl rfl dX11_takeItem_1 ?_
  refine G_istore_n hC 1 [(1, .int mat), (0, .ref (ad 100))] rfl (by decide) rfl dX11_takeItem_4 ?_
  refine G_aload_n hC 0 1 rfl rfl dX11_takeItem_5 ?_
  obtain ⟨q6, h6, h⟩ := bnd h
  refine G_cVl (st := []) hC _ 100 (by omega) (c_X11_takeLetters  l (by omega) e_model e_mtextarr h6) (cwV 0 hC.hts gX11_takeItem_X11_takeLetters rfl rfl rfl (by decide +kernel) ⟨Nat.le_of_ble_eq_true rfl, Nat.le_of_ble_eq_true rfl⟩) e_model rfl rfl (Nat.le_of_ble_eq_true rfl) (Nat.zero_le _) (Nat.zero_le _) rfl dX11_takeItem_6 (fun r6 en2 hw => ?_)
  obtain ⟨rfl, e_model, fr⟩ := hw
  have e_mtextarr := (fr 104 (by omega)).trans e_mtextarr
  have e_miwordarr := (fr 106 (by omega)).trans e_miwordarr
  have e_minamearr := (fr 107 (by omega)).trans e_minamearr
  have e_mnumberarr := (fr 108 (by omega)).trans e_mnumberarr
  have hfr : ∀ j, (j < 100 ∨ 101 ≤ j) → (j < 106 ∨ 107 ≤ j) → (j < 107 ∨ 108 ≤ j) → (j < 108 ∨ 109 ≤ j) → en2 j = en j := fun j o0 o1 o2 o3 => (fr j (by omega)).trans (hfr j o0 o1 o2 o3)
  obtain ⟨q9, h9, h⟩ := bnd h
  refine G_cSi (st := []) hC _ (c_X11_wordOf  l  h9) (va_cwS 1 hC.hts gX11_takeItem_X11_wordOf rfl rfl rfl (by decide +kernel) ⟨Nat.le_of_ble_eq_true rfl, Nat.le_of_ble_eq_true rfl⟩) rfl (Nat.le_of_ble_eq_true rfl) (Nat.zero_le _) (Nat.zero_le _) rfl dX11_takeItem_9 (fun r9 enx hw => ?_)
  obtain ⟨rfl, rfl⟩ := hw
  refine G_istore_n hC 2 [(2, .int q9), (1, .int mat), (0, .ref (ad 100))] rfl (by decide) rfl dX11_takeItem_12 ?_
  refine G_aload_n hC 0 2 rfl rfl dX11_takeItem_13 ?_
  refine G_iload_n hC 2 0 rfl rfl dX11_takeItem_14 ?_
  refine G_iconst hC (v := (-1)) (by decide) dX11_takeItem_15 ?_
  refine G_icmp_ne hC 23 dX11_takeItem_16 (by decide) (fun c16 => ?_) (fun c16 => ?_)
  · have h := ifn c16 h
    refine G_aload_n hC 0 2 rfl rfl dX11_takeItem_23 ?_
    refine G_get hC inX11 100 (by omega) (v := .int mfault) e_model rfl 14 (by decide) m154 rfl rfl dX11_takeItem_24 ?_
    refine G_lv [2, 0] rfl ?_
    exact hB27 _ _ _ _ _ _ _ _ _ e_model e_mtextarr e_miwordarr e_minamearr e_mnumberarr hfr h
  have h := ifp c16 h
  refine G_iload_n hC 1 1 rfl rfl dX11_takeItem_19 ?_
  refine G_goto hC 27 dX11_takeItem_20 (by decide) ?_
  refine G_lv [2, 0] rfl ?_
  exact hB27 _ _ _ _ _ _ _ _ _ e_model e_mtextarr e_miwordarr e_minamearr e_mnumberarr hfr h
def f_X11_tellItem (mw : Nat → Int32) (mnames : Nat → Int64) (miword : Nat → Int32) (miname : Nat → Int64) (mnumber : Nat → Int32) (x1 : Int32) : Option (Int32 × (Nat → Int32) × (Nat → Int64)) := if (5 : Int32) * x1 < 0 ∨ 300 ≤ ((5 : Int32) * x1).toNatClampNeg then none else (if ((5 : Int32) * x1) + (1 : Int32) < 0 ∨ 300 ≤ (((5 : Int32) * x1) + (1 : Int32)).toNatClampNeg then none else (if ((5 : Int32) * x1) + (2 : Int32) < 0 ∨ 300 ≤ (((5 : Int32) * x1) + (2 : Int32)).toNatClampNeg then none else (if x1 < 0 ∨ 60 ≤ x1.toNatClampNeg then none else (if miword x1.toNatClampNeg = (0 : Int32) then (if x1 < 0 ∨ 60 ≤ x1.toNatClampNeg then none else (if ((5 : Int32) * x1) + (3 : Int32) < 0 ∨ 300 ≤ (((5 : Int32) * x1) + (3 : Int32)).toNatClampNeg then none else (if ((5 : Int32) * x1) + (4 : Int32) < 0 ∨ 300 ≤ (((5 : Int32) * x1) + (4 : Int32)).toNatClampNeg then none else (Option.bind (f_X11_addOne mw mnames (360 : Int32) (miname x1.toNatClampNeg) (mnumber ((5 : Int32) * x1).toNatClampNeg) (mnumber (((5 : Int32) * x1) + (1 : Int32)).toNatClampNeg) (mnumber (((5 : Int32) * x1) + (2 : Int32)).toNatClampNeg) (mnumber (((5 : Int32) * x1) + (3 : Int32)).toNatClampNeg) (mnumber (((5 : Int32) * x1) + (4 : Int32)).toNatClampNeg)) (fun q102 => some (q102.1, q102.2.1, q102.2.2)))))) else if miword x1.toNatClampNeg = (1 : Int32) then (Option.bind (f_X11_oneTry mw (360 : Int32) (mnumber ((5 : Int32) * x1).toNatClampNeg) (mnumber (((5 : Int32) * x1) + (1 : Int32)).toNatClampNeg) (mnumber (((5 : Int32) * x1) + (2 : Int32)).toNatClampNeg)) (fun q114 => some (q114.1, q114.2, mnames))) else if miword x1.toNatClampNeg = (2 : Int32) then (Option.bind (f_X11_oneQuestion mw (360 : Int32) (mnumber ((5 : Int32) * x1).toNatClampNeg) (mnumber (((5 : Int32) * x1) + (1 : Int32)).toNatClampNeg)) (fun q124 => some (q124.1, q124.2, mnames))) else if miword x1.toNatClampNeg = (3 : Int32) then (Option.bind (f_X11_set mw (360 : Int32) (0 : Int32) (mnumber ((5 : Int32) * x1).toNatClampNeg)) (fun q134 => some (q134.1, q134.2, mnames))) else (Option.bind (f_X11_set mw (360 : Int32) (1 : Int32) (mnumber ((5 : Int32) * x1).toNatClampNeg)) (fun q144 => some (q144.1, q144.2, mnames)))))))
set_option maxHeartbeats 4000000 in
set_option maxRecDepth 100000 in
theorem c_X11_tellItem {D : va_G} {cs : Nat → ClassId} {sa : Nat → Nat} {n : Nat} {ad : Nat → Nat} {A : Nat → Prop} (l : Launch) {en : Nat → va_E}  {mw : Nat → Int32} {mnames : Nat → Int64} {mtexted : Int32} {mundo : Int32} {mabove : Int64} {mbelow : Int64} {miword : Nat → Int32} {miname : Nat → Int64} {mnumber : Nat → Int32} {mitems : Int32} {mat : Int32} {mfault : Int32} {mtakes : Int32} {mmisses : Int64} {mbest : Int64} {mh : Int64} {x1 : Int32}  {q : Int32 × (Nat → Int32) × (Nat → Int64)} (hn : 110 ≤ n) (e_model : en 100 = .inr (8, [.ref (ad 101), .ref (ad 102), .ref (ad 103), .ref (ad 104), .int mtexted, .int mundo, .long mabove, .long mbelow, .ref (ad 105), .ref (ad 106), .ref (ad 107), .ref (ad 108), .int mitems, .int mat, .int mfault, .int mtakes, .long mmisses, .long mbest, .ref (ad 109), .long mh])) (e_mwarr : en 101 = .inl (cs 1, 960, .inl (mw))) (e_mnamesarr : en 102 = .inl (cs 2, 96, .inr (.inl (mnames)))) (e_miwordarr : en 106 = .inl (cs 1, 60, .inl (miword))) (e_minamearr : en 107 = .inl (cs 2, 60, .inr (.inl (miname)))) (e_mnumberarr : en 108 = .inl (cs 1, 300, .inl (mnumber))) (h : f_X11_tellItem mw mnames miword miname mnumber x1 = some q) : Met l yX11_tellItem wsX11_tellItem { frames := 3, cells := 0, slots := 0, locals := 78 } (va_Pc [.ref (ad 100), .int x1] (Wd D cs sa n ad A en)) (va_Qi (fun r u => q.1 = r ∧ u 101 = .inl (cs 1, 960, .inl (q.2.1)) ∧ u 102 = .inl (cs 2, 96, .inr (.inl (q.2.2))) ∧ (∀ j, (j < 101 ∨ 102 ≤ j) → (j < 102 ∨ 103 ≤ j) → u j = en j)) (Wd D cs sa n ad A) A) 0 0 A := by
  refine G_startI cX11_tellItem 5 [(0, .ref (ad 100)), (1, .int x1)] (by decide) rfl (Nat.le_of_ble_eq_true rfl) rfl ?_
  intro p e s m args below meth c Q hC hnm Kr
  have inX11 : ∀ w ∈ u_ws RX11 TX11 20, w ∈ wsX11_tellItem := by decide +kernel
  have m31 : Cond.fieldLink RX11 31 "TongueTipModel" "itemWord" "[I" ∈ wsX11_tellItem := by decide +kernel
  have m34 : Cond.fieldLink RX11 34 "TongueTipModel" "itemName" "[J" ∈ wsX11_tellItem := by decide +kernel
  have m37 : Cond.fieldLink RX11 37 "TongueTipModel" "number" "[I" ∈ wsX11_tellItem := by decide +kernel
  unfold f_X11_tellItem at h
  have hfr : ∀ j, (j < 101 ∨ 102 ≤ j) → (j < 102 ∨ 103 ≤ j) → en j = en j := fun _ _ _ => rfl
  refine G_aload_n hC 0 0 rfl rfl dX11_tellItem_0 ?_
  refine G_get hC inX11 100 (by omega) (v := .ref (ad 108)) e_model rfl 11 (by decide) m37 rfl rfl dX11_tellItem_1 ?_
  refine G_iconst hC (v := 5) (by decide) dX11_tellItem_4 ?_
  refine G_iload_n hC 1 1 rfl rfl dX11_tellItem_5 ?_
  refine G_imul hC dX11_tellItem_6 ?_
  obtain ⟨g7, h⟩ := asn h
  refine G_iald hC 108 (by omega) e_mnumberarr g7 dX11_tellItem_7 ?_
  refine G_istore_n hC 2 [(2, .int (mnumber ((5 : Int32) * x1).toNatClampNeg)), (0, .ref (ad 100)), (1, .int x1)] rfl (by decide) rfl dX11_tellItem_8 ?_
  refine G_aload_n hC 0 1 rfl rfl dX11_tellItem_9 ?_
  refine G_get hC inX11 100 (by omega) (v := .ref (ad 108)) e_model rfl 11 (by decide) m37 rfl rfl dX11_tellItem_10 ?_
  refine G_iconst hC (v := 5) (by decide) dX11_tellItem_13 ?_
  refine G_iload_n hC 1 2 rfl rfl dX11_tellItem_14 ?_
  refine G_imul hC dX11_tellItem_15 ?_
  refine G_iconst hC (v := 1) (by decide) dX11_tellItem_16 ?_
  refine G_iadd hC dX11_tellItem_17 ?_
  obtain ⟨g18, h⟩ := asn h
  refine G_iald hC 108 (by omega) e_mnumberarr g18 dX11_tellItem_18 ?_
  refine G_istore_n hC 3 [(3, .int (mnumber (((5 : Int32) * x1) + (1 : Int32)).toNatClampNeg)), (2, .int (mnumber ((5 : Int32) * x1).toNatClampNeg)), (0, .ref (ad 100)), (1, .int x1)] rfl (by decide) rfl dX11_tellItem_19 ?_
  refine G_aload_n hC 0 2 rfl rfl dX11_tellItem_20 ?_
  refine G_get hC inX11 100 (by omega) (v := .ref (ad 108)) e_model rfl 11 (by decide) m37 rfl rfl dX11_tellItem_21 ?_
  refine G_iconst hC (v := 5) (by decide) dX11_tellItem_24 ?_
  refine G_iload_n hC 1 3 rfl rfl dX11_tellItem_25 ?_
  refine G_imul hC dX11_tellItem_26 ?_
  refine G_iconst hC (v := 2) (by decide) dX11_tellItem_27 ?_
  refine G_iadd hC dX11_tellItem_28 ?_
  obtain ⟨g29, h⟩ := asn h
  refine G_iald hC 108 (by omega) e_mnumberarr g29 dX11_tellItem_29 ?_
  refine G_istore hC 4 [(4, .int (mnumber (((5 : Int32) * x1) + (2 : Int32)).toNatClampNeg)), (3, .int (mnumber (((5 : Int32) * x1) + (1 : Int32)).toNatClampNeg)), (2, .int (mnumber ((5 : Int32) * x1).toNatClampNeg)), (0, .ref (ad 100)), (1, .int x1)] (by decide) rfl dX11_tellItem_30 ?_
  refine G_aload_n hC 0 3 rfl rfl dX11_tellItem_32 ?_
  refine G_get hC inX11 100 (by omega) (v := .ref (ad 106)) e_model rfl 9 (by decide) m31 rfl rfl dX11_tellItem_33 ?_
  refine G_iload_n hC 1 4 rfl rfl dX11_tellItem_36 ?_
  obtain ⟨g37, h⟩ := asn h
  refine G_iald hC 106 (by omega) e_miwordarr g37 dX11_tellItem_37 ?_
  by_cases c38_0 : miword x1.toNatClampNeg = (0 : Int32)
  · have h := ifp c38_0 h
    refine G_tabIn hC 68 dX11_tellItem_38 (by rw [c38_0]; decide) (by rw [c38_0]; decide) (off := 30) (by rw [c38_0]; decide) (by decide) ?_
    refine G_aload_n hC 0 3 rfl rfl dX11_tellItem_68 ?_
    refine G_sipush hC (v := 360) (by decide) dX11_tellItem_69 ?_
    refine G_aload_n hC 0 3 rfl rfl dX11_tellItem_72 ?_
    refine G_get hC inX11 100 (by omega) (v := .ref (ad 107)) e_model rfl 10 (by decide) m34 rfl rfl dX11_tellItem_73 ?_
    refine G_iload_n hC 1 4 rfl rfl dX11_tellItem_76 ?_
    obtain ⟨g77, h⟩ := asn h
    refine G_lald hC 107 (by omega) e_minamearr g77 dX11_tellItem_77 ?_
    refine G_iload_n hC 2 2 rfl rfl dX11_tellItem_78 ?_
    refine G_iload_n hC 3 1 rfl rfl dX11_tellItem_79 ?_
    refine G_iload hC 4 0 rfl dX11_tellItem_80 ?_
    refine G_aload_n hC 0 3 rfl rfl dX11_tellItem_82 ?_
    refine G_get hC inX11 100 (by omega) (v := .ref (ad 108)) e_model rfl 11 (by decide) m37 rfl rfl dX11_tellItem_83 ?_
    refine G_iconst hC (v := 5) (by decide) dX11_tellItem_86 ?_
    refine G_iload_n hC 1 4 rfl rfl dX11_tellItem_87 ?_
    refine G_imul hC dX11_tellItem_88 ?_
    refine G_iconst hC (v := 3) (by decide) dX11_tellItem_89 ?_
    refine G_iadd hC dX11_tellItem_90 ?_
    obtain ⟨g91, h⟩ := asn h
    refine G_iald hC 108 (by omega) e_mnumberarr g91 dX11_tellItem_91 ?_
    refine G_aload_n hC 0 3 rfl rfl dX11_tellItem_92 ?_
    refine G_get hC inX11 100 (by omega) (v := .ref (ad 108)) e_model rfl 11 (by decide) m37 rfl rfl dX11_tellItem_93 ?_
    refine G_iconst hC (v := 5) (by decide) dX11_tellItem_96 ?_
    refine G_iload_n hC 1 4 rfl rfl dX11_tellItem_97 ?_
    refine G_imul hC dX11_tellItem_98 ?_
    refine G_iconst hC (v := 4) (by decide) dX11_tellItem_99 ?_
    refine G_iadd hC dX11_tellItem_100 ?_
    obtain ⟨g101, h⟩ := asn h
    refine G_iald hC 108 (by omega) e_mnumberarr g101 dX11_tellItem_101 ?_
    obtain ⟨q102, h102, h⟩ := bnd h
    refine G_cVi (st := []) hC _ 100 (by omega) (c_X11_addOne  l (by omega) e_model e_mwarr e_mnamesarr h102) (cwV 7 hC.hts gX11_tellItem_X11_addOne rfl rfl rfl (by decide +kernel) ⟨Nat.le_of_ble_eq_true rfl, Nat.le_of_ble_eq_true rfl⟩) e_model rfl rfl (Nat.le_of_ble_eq_true rfl) (Nat.zero_le _) (Nat.zero_le _) rfl dX11_tellItem_102 (fun r102 en2 hw => ?_)
    obtain ⟨rfl, e_mwarr, e_mnamesarr, fr⟩ := hw
    have e_model := (fr 100 (by omega) (by omega)).trans e_model
    have e_miwordarr := (fr 106 (by omega) (by omega)).trans e_miwordarr
    have e_minamearr := (fr 107 (by omega) (by omega)).trans e_minamearr
    have e_mnumberarr := (fr 108 (by omega) (by omega)).trans e_mnumberarr
    have hfr : ∀ j, (j < 101 ∨ 102 ≤ j) → (j < 102 ∨ 103 ≤ j) → en2 j = en j := fun j o0 o1 => (fr j (by omega) (by omega)).trans (hfr j o0 o1)
    have h := Option.some.inj h
    subst h
    exact Kr _ _ _ _ (nar_i _) ⟨rfl, e_mwarr, e_mnamesarr, hfr⟩ dX11_tellItem_105
  have h := ifn c38_0 h
  by_cases c38_1 : miword x1.toNatClampNeg = (1 : Int32)
  · have h := ifp c38_1 h
    refine G_tabIn hC 106 dX11_tellItem_38 (by rw [c38_1]; decide) (by rw [c38_1]; decide) (off := 68) (by rw [c38_1]; decide) (by decide) ?_
    refine G_aload_n hC 0 3 rfl rfl dX11_tellItem_106 ?_
    refine G_sipush hC (v := 360) (by decide) dX11_tellItem_107 ?_
    refine G_iload_n hC 2 2 rfl rfl dX11_tellItem_110 ?_
    refine G_iload_n hC 3 1 rfl rfl dX11_tellItem_111 ?_
    refine G_iload hC 4 0 rfl dX11_tellItem_112 ?_
    obtain ⟨q114, h114, h⟩ := bnd h
    refine G_cVi (st := []) hC _ 100 (by omega) (c_X11_oneTry  l (by omega) e_model e_mwarr h114) (cwV 4 hC.hts gX11_tellItem_X11_oneTry rfl rfl rfl (by decide +kernel) ⟨Nat.le_of_ble_eq_true rfl, Nat.le_of_ble_eq_true rfl⟩) e_model rfl rfl (Nat.le_of_ble_eq_true rfl) (Nat.zero_le _) (Nat.zero_le _) rfl dX11_tellItem_114 (fun r114 en3 hw => ?_)
    obtain ⟨rfl, e_mwarr, fr⟩ := hw
    have e_model := (fr 100 (by omega)).trans e_model
    have e_mnamesarr := (fr 102 (by omega)).trans e_mnamesarr
    have e_miwordarr := (fr 106 (by omega)).trans e_miwordarr
    have e_minamearr := (fr 107 (by omega)).trans e_minamearr
    have e_mnumberarr := (fr 108 (by omega)).trans e_mnumberarr
    have hfr : ∀ j, (j < 101 ∨ 102 ≤ j) → (j < 102 ∨ 103 ≤ j) → en3 j = en j := fun j o0 o1 => (fr j (by omega)).trans (hfr j o0 o1)
    have h := Option.some.inj h
    subst h
    exact Kr _ _ _ _ (nar_i _) ⟨rfl, e_mwarr, e_mnamesarr, hfr⟩ dX11_tellItem_117
  have h := ifn c38_1 h
  by_cases c38_2 : miword x1.toNatClampNeg = (2 : Int32)
  · have h := ifp c38_2 h
    refine G_tabIn hC 118 dX11_tellItem_38 (by rw [c38_2]; decide) (by rw [c38_2]; decide) (off := 80) (by rw [c38_2]; decide) (by decide) ?_
    refine G_aload_n hC 0 3 rfl rfl dX11_tellItem_118 ?_
    refine G_sipush hC (v := 360) (by decide) dX11_tellItem_119 ?_
    refine G_iload_n hC 2 2 rfl rfl dX11_tellItem_122 ?_
    refine G_iload_n hC 3 1 rfl rfl dX11_tellItem_123 ?_
    obtain ⟨q124, h124, h⟩ := bnd h
    refine G_cVi (st := []) hC _ 100 (by omega) (c_X11_oneQuestion  l (by omega) e_model e_mwarr h124) (cwV 3 hC.hts gX11_tellItem_X11_oneQuestion rfl rfl rfl (by decide +kernel) ⟨Nat.le_of_ble_eq_true rfl, Nat.le_of_ble_eq_true rfl⟩) e_model rfl rfl (Nat.le_of_ble_eq_true rfl) (Nat.zero_le _) (Nat.zero_le _) rfl dX11_tellItem_124 (fun r124 en4 hw => ?_)
    obtain ⟨rfl, e_mwarr, fr⟩ := hw
    have e_model := (fr 100 (by omega)).trans e_model
    have e_mnamesarr := (fr 102 (by omega)).trans e_mnamesarr
    have e_miwordarr := (fr 106 (by omega)).trans e_miwordarr
    have e_minamearr := (fr 107 (by omega)).trans e_minamearr
    have e_mnumberarr := (fr 108 (by omega)).trans e_mnumberarr
    have hfr : ∀ j, (j < 101 ∨ 102 ≤ j) → (j < 102 ∨ 103 ≤ j) → en4 j = en j := fun j o0 o1 => (fr j (by omega)).trans (hfr j o0 o1)
    have h := Option.some.inj h
    subst h
    exact Kr _ _ _ _ (nar_i _) ⟨rfl, e_mwarr, e_mnamesarr, hfr⟩ dX11_tellItem_127
  have h := ifn c38_2 h
  by_cases c38_3 : miword x1.toNatClampNeg = (3 : Int32)
  · have h := ifp c38_3 h
    refine G_tabIn hC 128 dX11_tellItem_38 (by rw [c38_3]; decide) (by rw [c38_3]; decide) (off := 90) (by rw [c38_3]; decide) (by decide) ?_
    refine G_aload_n hC 0 3 rfl rfl dX11_tellItem_128 ?_
    refine G_sipush hC (v := 360) (by decide) dX11_tellItem_129 ?_
    refine G_iconst hC (v := 0) (by decide) dX11_tellItem_132 ?_
    refine G_iload_n hC 2 2 rfl rfl dX11_tellItem_133 ?_
    obtain ⟨q134, h134, h⟩ := bnd h
    refine G_cVi (st := []) hC _ 100 (by omega) (c_X11_set  l (by omega) e_model e_mwarr h134) (cwV 3 hC.hts gX11_tellItem_X11_set rfl rfl rfl (by decide +kernel) ⟨Nat.le_of_ble_eq_true rfl, Nat.le_of_ble_eq_true rfl⟩) e_model rfl rfl (Nat.le_of_ble_eq_true rfl) (Nat.zero_le _) (Nat.zero_le _) rfl dX11_tellItem_134 (fun r134 en5 hw => ?_)
    obtain ⟨rfl, e_mwarr, fr⟩ := hw
    have e_model := (fr 100 (by omega)).trans e_model
    have e_mnamesarr := (fr 102 (by omega)).trans e_mnamesarr
    have e_miwordarr := (fr 106 (by omega)).trans e_miwordarr
    have e_minamearr := (fr 107 (by omega)).trans e_minamearr
    have e_mnumberarr := (fr 108 (by omega)).trans e_mnumberarr
    have hfr : ∀ j, (j < 101 ∨ 102 ≤ j) → (j < 102 ∨ 103 ≤ j) → en5 j = en j := fun j o0 o1 => (fr j (by omega)).trans (hfr j o0 o1)
    have h := Option.some.inj h
    subst h
    exact Kr _ _ _ _ (nar_i _) ⟨rfl, e_mwarr, e_mnamesarr, hfr⟩ dX11_tellItem_137
  have h := ifn c38_3 h
  refine G_tabOut hC 138 dX11_tellItem_38 (sw_out 0 3 (by decide) (fun i h0 h1 => by
    rcases (show i = 0 ∨ i = 1 ∨ i = 2 ∨ i = 3 by omega) with rfl | rfl | rfl | rfl
    · exact c38_0
    · exact c38_1
    · exact c38_2
    · exact c38_3)) (by decide) ?_
  refine G_aload_n hC 0 3 rfl rfl dX11_tellItem_138 ?_
  refine G_sipush hC (v := 360) (by decide) dX11_tellItem_139 ?_
  refine G_iconst hC (v := 1) (by decide) dX11_tellItem_142 ?_
  refine G_iload_n hC 2 2 rfl rfl dX11_tellItem_143 ?_
  obtain ⟨q144, h144, h⟩ := bnd h
  refine G_cVi (st := []) hC _ 100 (by omega) (c_X11_set  l (by omega) e_model e_mwarr h144) (cwV 3 hC.hts gX11_tellItem_X11_set rfl rfl rfl (by decide +kernel) ⟨Nat.le_of_ble_eq_true rfl, Nat.le_of_ble_eq_true rfl⟩) e_model rfl rfl (Nat.le_of_ble_eq_true rfl) (Nat.zero_le _) (Nat.zero_le _) rfl dX11_tellItem_144 (fun r144 en6 hw => ?_)
  obtain ⟨rfl, e_mwarr, fr⟩ := hw
  have e_model := (fr 100 (by omega)).trans e_model
  have e_mnamesarr := (fr 102 (by omega)).trans e_mnamesarr
  have e_miwordarr := (fr 106 (by omega)).trans e_miwordarr
  have e_minamearr := (fr 107 (by omega)).trans e_minamearr
  have e_mnumberarr := (fr 108 (by omega)).trans e_mnumberarr
  have hfr : ∀ j, (j < 101 ∨ 102 ≤ j) → (j < 102 ∨ 103 ≤ j) → en6 j = en j := fun j o0 o1 => (fr j (by omega)).trans (hfr j o0 o1)
  have h := Option.some.inj h
  subst h
  exact Kr _ _ _ _ (nar_i _) ⟨rfl, e_mwarr, e_mnamesarr, hfr⟩ dX11_tellItem_147
def f_X11_read_L62 (mtext : Nat → Int32) (mtexted : Int32)  : Nat → (Nat → Int32) → (Nat → Int64) → Int32 → (Nat → Int32) → (Nat → Int64) → (Nat → Int32) → Int32 → Int32 → Int32 → Int32 → Option (Int32 × (Nat → Int32) × (Nat → Int64) × Int32 × (Nat → Int32) × (Nat → Int64) × (Nat → Int32) × Int32 × Int32 × Int32)
  | 0, _, _, _, _, _, _, _, _, _, _ => none
  | fu + 1, mw, mnames, mundo, miword, miname, mnumber, mitems, mat, mfault, x1 => if mitems ≤ x1 then (Option.bind (f_X11_copy mw mnames (360 : Int32) (0 : Int32)) (fun q95 => some (mitems, q95.1, q95.2, (0 : Int32), miword, miname, mnumber, mitems, mat, mfault))) else (Option.bind (f_X11_tellItem mw mnames miword miname mnumber x1) (fun q72 => if 0 ≤ q72.1 then (f_X11_read_L62 mtext mtexted fu q72.2.1 q72.2.2 mundo miword miname mnumber mitems mat mfault (x1 + (1 : Int32))) else (some ((-1000 : Int32) - x1, q72.2.1, q72.2.2, mundo, miword, miname, mnumber, mitems, mat, mfault))))
def f_X11_read_B37 (mtext : Nat → Int32) (mtexted : Int32)  (mw : Nat → Int32) (mnames : Nat → Int64) (mundo : Int32) (miword : Nat → Int32) (miname : Nat → Int64) (mnumber : Nat → Int32) (mitems : Int32) (mat : Int32) (mfault : Int32) : Option (Int32 × (Nat → Int32) × (Nat → Int64) × Int32 × (Nat → Int32) × (Nat → Int64) × (Nat → Int32) × Int32 × Int32 × Int32) := if mfault = (-1 : Int32) then (Option.bind (f_X11_makeAnew mw (360 : Int32)) (fun q57 => f_X11_read_L62 mtext mtexted FU q57 mnames mundo miword miname mnumber mitems mat mfault (0 : Int32))) else (some ((-10 : Int32) - mfault, mw, mnames, mundo, miword, miname, mnumber, mitems, mat, mfault))
def f_X11_read_L15 (mtext : Nat → Int32) (mtexted : Int32)  : Nat → (Nat → Int32) → (Nat → Int64) → Int32 → (Nat → Int32) → (Nat → Int64) → (Nat → Int32) → Int32 → Int32 → Int32 → Option (Int32 × (Nat → Int32) × (Nat → Int64) × Int32 × (Nat → Int32) × (Nat → Int64) × (Nat → Int32) × Int32 × Int32 × Int32)
  | 0, _, _, _, _, _, _, _, _, _ => none
  | fu + 1, mw, mnames, mundo, miword, miname, mnumber, mitems, mat, mfault => if mfault = (-1 : Int32) then (Option.bind (f_X11_isEnd mtext mtexted mat) (fun q24 => if q24.1 = 0 then (Option.bind (f_X11_takeItem mtext mtexted miword miname mnumber mitems q24.2 mfault) (fun q31 => f_X11_read_L15 mtext mtexted fu mw mnames mundo q31.1 q31.2.1 q31.2.2.1 q31.2.2.2.1 q31.2.2.2.2.1 q31.2.2.2.2.2)) else (f_X11_read_B37 mtext mtexted mw mnames mundo miword miname mnumber mitems q24.2 mfault))) else (f_X11_read_B37 mtext mtexted mw mnames mundo miword miname mnumber mitems mat mfault)
def f_X11_read (mw : Nat → Int32) (mnames : Nat → Int64) (mtext : Nat → Int32) (mtexted : Int32) (mundo : Int32) (miword : Nat → Int32) (miname : Nat → Int64) (mnumber : Nat → Int32) (mitems : Int32) (mat : Int32) (mfault : Int32)  : Option (Int32 × (Nat → Int32) × (Nat → Int64) × Int32 × (Nat → Int32) × (Nat → Int64) × (Nat → Int32) × Int32 × Int32 × Int32) := f_X11_read_L15 mtext mtexted FU mw mnames mundo miword miname mnumber (0 : Int32) (0 : Int32) (-1 : Int32)
set_option maxHeartbeats 4000000 in
set_option maxRecDepth 100000 in
theorem c_X11_read {D : va_G} {cs : Nat → ClassId} {sa : Nat → Nat} {n : Nat} {ad : Nat → Nat} {A : Nat → Prop} (l : Launch) {en : Nat → va_E}  {mw : Nat → Int32} {mnames : Nat → Int64} {mtext : Nat → Int32} {mtexted : Int32} {mundo : Int32} {mabove : Int64} {mbelow : Int64} {miword : Nat → Int32} {miname : Nat → Int64} {mnumber : Nat → Int32} {mitems : Int32} {mat : Int32} {mfault : Int32} {mtakes : Int32} {mmisses : Int64} {mbest : Int64} {mh : Int64}   {q : Int32 × (Nat → Int32) × (Nat → Int64) × Int32 × (Nat → Int32) × (Nat → Int64) × (Nat → Int32) × Int32 × Int32 × Int32} (hn : 110 ≤ n) (e_model : en 100 = .inr (8, [.ref (ad 101), .ref (ad 102), .ref (ad 103), .ref (ad 104), .int mtexted, .int mundo, .long mabove, .long mbelow, .ref (ad 105), .ref (ad 106), .ref (ad 107), .ref (ad 108), .int mitems, .int mat, .int mfault, .int mtakes, .long mmisses, .long mbest, .ref (ad 109), .long mh])) (e_mwarr : en 101 = .inl (cs 1, 960, .inl (mw))) (e_mnamesarr : en 102 = .inl (cs 2, 96, .inr (.inl (mnames)))) (e_mtextarr : en 104 = .inl (cs 1, 300, .inl (mtext))) (e_miwordarr : en 106 = .inl (cs 1, 60, .inl (miword))) (e_minamearr : en 107 = .inl (cs 2, 60, .inr (.inl (miname)))) (e_mnumberarr : en 108 = .inl (cs 1, 300, .inl (mnumber))) (h : f_X11_read mw mnames mtext mtexted mundo miword miname mnumber mitems mat mfault = some q) : Met l yX11_read wsX11_read { frames := 4, cells := 0, slots := 0, locals := 102 } (va_Pc [.ref (ad 100)] (Wd D cs sa n ad A en)) (va_Qi (fun r u => q.1 = r ∧ u 100 = .inr (8, [.ref (ad 101), .ref (ad 102), .ref (ad 103), .ref (ad 104), .int mtexted, .int q.2.2.2.1, .long mabove, .long mbelow, .ref (ad 105), .ref (ad 106), .ref (ad 107), .ref (ad 108), .int q.2.2.2.2.2.2.2.1, .int q.2.2.2.2.2.2.2.2.1, .int q.2.2.2.2.2.2.2.2.2, .int mtakes, .long mmisses, .long mbest, .ref (ad 109), .long mh]) ∧ u 101 = .inl (cs 1, 960, .inl (q.2.1)) ∧ u 102 = .inl (cs 2, 96, .inr (.inl (q.2.2.1))) ∧ u 106 = .inl (cs 1, 60, .inl (q.2.2.2.2.1)) ∧ u 107 = .inl (cs 2, 60, .inr (.inl (q.2.2.2.2.2.1))) ∧ u 108 = .inl (cs 1, 300, .inl (q.2.2.2.2.2.2.1)) ∧ (∀ j, (j < 100 ∨ 101 ≤ j) → (j < 101 ∨ 102 ≤ j) → (j < 102 ∨ 103 ≤ j) → (j < 106 ∨ 107 ≤ j) → (j < 107 ∨ 108 ≤ j) → (j < 108 ∨ 109 ≤ j) → u j = en j)) (Wd D cs sa n ad A) A) 0 0 A := by
  refine G_startI cX11_read 2 [(0, .ref (ad 100))] (by decide) rfl (Nat.le_of_ble_eq_true rfl) rfl ?_
  intro p e s m args below meth c Q hC hnm Kr
  have inX11 : ∀ w ∈ u_ws RX11 TX11 20, w ∈ wsX11_read := by decide +kernel
  have m105 : Cond.fieldLink RX11 105 "TongueTipModel" "undoable" "I" ∈ wsX11_read := by decide +kernel
  have m129 : Cond.fieldLink RX11 129 "TongueTipModel" "at" "I" ∈ wsX11_read := by decide +kernel
  have m154 : Cond.fieldLink RX11 154 "TongueTipModel" "fault" "I" ∈ wsX11_read := by decide +kernel
  have m168 : Cond.fieldLink RX11 168 "TongueTipModel" "items" "I" ∈ wsX11_read := by decide +kernel
  have hL62 : ∀ (fu62 : Nat), ∀ (en1 : Nat → va_E) (mw : Nat → Int32) (mnames : Nat → Int64) (mundo : Int32) (miword : Nat → Int32) (miname : Nat → Int64) (mnumber : Nat → Int32) (mitems : Int32) (mat : Int32) (mfault : Int32) (x1 : Int32), en1 100 = .inr (8, [.ref (ad 101), .ref (ad 102), .ref (ad 103), .ref (ad 104), .int mtexted, .int mundo, .long mabove, .long mbelow, .ref (ad 105), .ref (ad 106), .ref (ad 107), .ref (ad 108), .int mitems, .int mat, .int mfault, .int mtakes, .long mmisses, .long mbest, .ref (ad 109), .long mh]) → en1 101 = .inl (cs 1, 960, .inl (mw)) → en1 102 = .inl (cs 2, 96, .inr (.inl (mnames))) → en1 104 = .inl (cs 1, 300, .inl (mtext)) → en1 106 = .inl (cs 1, 60, .inl (miword)) → en1 107 = .inl (cs 2, 60, .inr (.inl (miname))) → en1 108 = .inl (cs 1, 300, .inl (mnumber)) → (∀ j, (j < 100 ∨ 101 ≤ j) → (j < 101 ∨ 102 ≤ j) → (j < 102 ∨ 103 ≤ j) → (j < 106 ∨ 107 ≤ j) → (j < 107 ∨ 108 ≤ j) → (j < 108 ∨ 109 ≤ j) → en1 j = en j) → f_X11_read_L62 mtext mtexted fu62 mw mnames mundo miword miname mnumber mitems mat mfault x1 = some q → G p l e ({ frames := 4, cells := 0, slots := 0, locals := 102 } : Room) s m args below meth c D n ad A 2 0 0 Q en1 62 [(0, .ref (ad 100)), (1, .int x1)] [] := by
    intro fu62
    induction fu62 with
    | zero =>
      intro en1 mw mnames mundo miword miname mnumber mitems mat mfault x1 e_model e_mwarr e_mnamesarr e_mtextarr e_miwordarr e_minamearr e_mnumberarr hfr h
      rw [f_X11_read_L62] at h
      cases h
    | succ fu62 ih62 =>
      intro en1 mw mnames mundo miword miname mnumber mitems mat mfault x1 e_model e_mwarr e_mnamesarr e_mtextarr e_miwordarr e_minamearr e_mnumberarr hfr h
      rw [f_X11_read_L62] at h
      refine G_iload_n hC 1 1 rfl rfl dX11_read_62 ?_
      refine G_aload_n hC 0 0 rfl rfl dX11_read_63 ?_
      refine G_get hC inX11 100 (by omega) (v := .int mitems) e_model rfl 12 (by decide) m168 rfl rfl dX11_read_64 ?_
      refine G_icmp_ge hC 90 dX11_read_67 (by decide) (fun c67 => ?_) (fun c67 => ?_)
      · have h := ifp c67 h
        refine G_aload_n hC 0 0 rfl rfl dX11_read_90 ?_
        refine G_sipush hC (v := 360) (by decide) dX11_read_91 ?_
        refine G_iconst hC (v := 0) (by decide) dX11_read_94 ?_
        obtain ⟨q95, h95, h⟩ := bnd h
        refine G_cVv (st := []) hC _ 100 (by omega) (c_X11_copy  l (by omega) e_model e_mwarr e_mnamesarr h95) (cwV 2 hC.hts gX11_read_X11_copy rfl rfl rfl (by decide +kernel) ⟨Nat.le_of_ble_eq_true rfl, Nat.le_of_ble_eq_true rfl⟩) e_model rfl rfl (Nat.le_of_ble_eq_true rfl) (Nat.zero_le _) (Nat.zero_le _) rfl dX11_read_95 (fun en2 hw => ?_)
        obtain ⟨e_mwarr, e_mnamesarr, fr⟩ := hw
        have e_model := (fr 100 (by omega) (by omega)).trans e_model
        have e_mtextarr := (fr 104 (by omega) (by omega)).trans e_mtextarr
        have e_miwordarr := (fr 106 (by omega) (by omega)).trans e_miwordarr
        have e_minamearr := (fr 107 (by omega) (by omega)).trans e_minamearr
        have e_mnumberarr := (fr 108 (by omega) (by omega)).trans e_mnumberarr
        have hfr : ∀ j, (j < 100 ∨ 101 ≤ j) → (j < 101 ∨ 102 ≤ j) → (j < 102 ∨ 103 ≤ j) → (j < 106 ∨ 107 ≤ j) → (j < 107 ∨ 108 ≤ j) → (j < 108 ∨ 109 ≤ j) → en2 j = en j := fun j o0 o1 o2 o3 o4 o5 => (fr j (by omega) (by omega)).trans (hfr j o0 o1 o2 o3 o4 o5)
        refine G_aload_n hC 0 0 rfl rfl dX11_read_98 ?_
        refine G_iconst hC (v := 0) (by decide) dX11_read_99 ?_
        refine G_put hC inX11 tyX11 tyX11_ok nmX11 100 (by omega) e_model rfl 5 (by decide) m105 rfl rfl (ty := .int) rfl rfl rfl (Nat.le_of_ble_eq_true rfl) dX11_read_100 (fun en3 e_model fr => ?_)
        have e_model : en3 100 = .inr (8, [.ref (ad 101), .ref (ad 102), .ref (ad 103), .ref (ad 104), .int mtexted, .int (0 : Int32), .long mabove, .long mbelow, .ref (ad 105), .ref (ad 106), .ref (ad 107), .ref (ad 108), .int mitems, .int mat, .int mfault, .int mtakes, .long mmisses, .long mbest, .ref (ad 109), .long mh]) := e_model
        have e_mwarr := (fr 101 (by omega)).trans e_mwarr
        have e_mnamesarr := (fr 102 (by omega)).trans e_mnamesarr
        have e_mtextarr := (fr 104 (by omega)).trans e_mtextarr
        have e_miwordarr := (fr 106 (by omega)).trans e_miwordarr
        have e_minamearr := (fr 107 (by omega)).trans e_minamearr
        have e_mnumberarr := (fr 108 (by omega)).trans e_mnumberarr
        have hfr : ∀ j, (j < 100 ∨ 101 ≤ j) → (j < 101 ∨ 102 ≤ j) → (j < 102 ∨ 103 ≤ j) → (j < 106 ∨ 107 ≤ j) → (j < 107 ∨ 108 ≤ j) → (j < 108 ∨ 109 ≤ j) → en3 j = en j := fun j o0 o1 o2 o3 o4 o5 => (fr j (by omega)).trans (hfr j o0 o1 o2 o3 o4 o5)
        refine G_aload_n hC 0 0 rfl rfl dX11_read_103 ?_
        refine G_get hC inX11 100 (by omega) (v := .int mitems) e_model rfl 12 (by decide) m168 rfl rfl dX11_read_104 ?_
        have h := Option.some.inj h
        subst h
        exact Kr _ _ _ _ (nar_i _) ⟨rfl, e_model, e_mwarr, e_mnamesarr, e_miwordarr, e_minamearr, e_mnumberarr, hfr⟩ dX11_read_107
      have h := ifn c67 h
      refine G_aload_n hC 0 0 rfl rfl dX11_read_70 ?_
      refine G_iload_n hC 1 1 rfl rfl dX11_read_71 ?_
      obtain ⟨q72, h72, h⟩ := bnd h
      refine G_cVi (st := []) hC _ 100 (by omega) (c_X11_tellItem  l (by omega) e_model e_mwarr e_mnamesarr e_miwordarr e_minamearr e_mnumberarr h72) (cwV 1 hC.hts gX11_read_X11_tellItem rfl rfl rfl (by decide +kernel) ⟨Nat.le_of_ble_eq_true rfl, Nat.le_of_ble_eq_true rfl⟩) e_model rfl rfl (Nat.le_of_ble_eq_true rfl) (Nat.zero_le _) (Nat.zero_le _) rfl dX11_read_72 (fun r72 en4 hw => ?_)
      obtain ⟨rfl, e_mwarr, e_mnamesarr, fr⟩ := hw
      have e_model := (fr 100 (by omega) (by omega)).trans e_model
      have e_mtextarr := (fr 104 (by omega) (by omega)).trans e_mtextarr
      have e_miwordarr := (fr 106 (by omega) (by omega)).trans e_miwordarr
      have e_minamearr := (fr 107 (by omega) (by omega)).trans e_minamearr
      have e_mnumberarr := (fr 108 (by omega) (by omega)).trans e_mnumberarr
      have hfr : ∀ j, (j < 100 ∨ 101 ≤ j) → (j < 101 ∨ 102 ≤ j) → (j < 102 ∨ 103 ≤ j) → (j < 106 ∨ 107 ≤ j) → (j < 107 ∨ 108 ≤ j) → (j < 108 ∨ 109 ≤ j) → en4 j = en j := fun j o0 o1 o2 o3 o4 o5 => (fr j (by omega) (by omega)).trans (hfr j o0 o1 o2 o3 o4 o5)
      refine G_if_ge hC 84 dX11_read_75 (by decide) (fun c75 => ?_) (fun c75 => ?_)
      · have h := ifp c75 h
        refine G_iinc hC 1 1 [(1, .int (x1 + (1 : Int32))), (0, .ref (ad 100))] rfl rfl (by decide) rfl dX11_read_84 ?_
        refine G_goto hC 62 dX11_read_87 (by decide) ?_
        refine G_lv [1, 0] rfl ?_
        exact ih62 _ _ _ _ _ _ _ _ _ _ _ e_model e_mwarr e_mnamesarr e_mtextarr e_miwordarr e_minamearr e_mnumberarr hfr h
      have h := ifn c75 h
      refine G_sipush hC (v := (-1000)) (by decide) dX11_read_78 ?_
      refine G_iload_n hC 1 1 rfl rfl dX11_read_81 ?_
      refine G_isub hC dX11_read_82 ?_
      have h := Option.some.inj h
      subst h
      exact Kr _ _ _ _ (nar_i _) ⟨rfl, e_model, e_mwarr, e_mnamesarr, e_miwordarr, e_minamearr, e_mnumberarr, hfr⟩ dX11_read_83
  have hB37 : ∀ (en1 : Nat → va_E) (mw : Nat → Int32) (mnames : Nat → Int64) (mundo : Int32) (miword : Nat → Int32) (miname : Nat → Int64) (mnumber : Nat → Int32) (mitems : Int32) (mat : Int32) (mfault : Int32), en1 100 = .inr (8, [.ref (ad 101), .ref (ad 102), .ref (ad 103), .ref (ad 104), .int mtexted, .int mundo, .long mabove, .long mbelow, .ref (ad 105), .ref (ad 106), .ref (ad 107), .ref (ad 108), .int mitems, .int mat, .int mfault, .int mtakes, .long mmisses, .long mbest, .ref (ad 109), .long mh]) → en1 101 = .inl (cs 1, 960, .inl (mw)) → en1 102 = .inl (cs 2, 96, .inr (.inl (mnames))) → en1 104 = .inl (cs 1, 300, .inl (mtext)) → en1 106 = .inl (cs 1, 60, .inl (miword)) → en1 107 = .inl (cs 2, 60, .inr (.inl (miname))) → en1 108 = .inl (cs 1, 300, .inl (mnumber)) → (∀ j, (j < 100 ∨ 101 ≤ j) → (j < 101 ∨ 102 ≤ j) → (j < 102 ∨ 103 ≤ j) → (j < 106 ∨ 107 ≤ j) → (j < 107 ∨ 108 ≤ j) → (j < 108 ∨ 109 ≤ j) → en1 j = en j) → f_X11_read_B37 mtext mtexted mw mnames mundo miword miname mnumber mitems mat mfault = some q → G p l e ({ frames := 4, cells := 0, slots := 0, locals := 102 } : Room) s m args below meth c D n ad A 2 0 0 Q en1 37 [(0, .ref (ad 100))] [] := by
    intro en1 mw mnames mundo miword miname mnumber mitems mat mfault e_model e_mwarr e_mnamesarr e_mtextarr e_miwordarr e_minamearr e_mnumberarr hfr h
    unfold f_X11_read_B37 at h
    refine G_aload_n hC 0 0 rfl rfl dX11_read_37 ?_
    refine G_get hC inX11 100 (by omega) (v := .int mfault) e_model rfl 14 (by decide) m154 rfl rfl dX11_read_38 ?_
    refine G_iconst hC (v := (-1)) (by decide) dX11_read_41 ?_
    refine G_icmp_eq hC 53 dX11_read_42 (by decide) (fun c42 => ?_) (fun c42 => ?_)
    · have h := ifp c42 h
      refine G_aload_n hC 0 0 rfl rfl dX11_read_53 ?_
      refine G_sipush hC (v := 360) (by decide) dX11_read_54 ?_
      obtain ⟨q57, h57, h⟩ := bnd h
      refine G_cVv (st := []) hC _ 100 (by omega) (c_X11_makeAnew  l (by omega) e_model e_mwarr h57) (cwV 1 hC.hts gX11_read_X11_makeAnew rfl rfl rfl (by decide +kernel) ⟨Nat.le_of_ble_eq_true rfl, Nat.le_of_ble_eq_true rfl⟩) e_model rfl rfl (Nat.le_of_ble_eq_true rfl) (Nat.zero_le _) (Nat.zero_le _) rfl dX11_read_57 (fun en2 hw => ?_)
      obtain ⟨e_mwarr, fr⟩ := hw
      have e_model := (fr 100 (by omega)).trans e_model
      have e_mnamesarr := (fr 102 (by omega)).trans e_mnamesarr
      have e_mtextarr := (fr 104 (by omega)).trans e_mtextarr
      have e_miwordarr := (fr 106 (by omega)).trans e_miwordarr
      have e_minamearr := (fr 107 (by omega)).trans e_minamearr
      have e_mnumberarr := (fr 108 (by omega)).trans e_mnumberarr
      have hfr : ∀ j, (j < 100 ∨ 101 ≤ j) → (j < 101 ∨ 102 ≤ j) → (j < 102 ∨ 103 ≤ j) → (j < 106 ∨ 107 ≤ j) → (j < 107 ∨ 108 ≤ j) → (j < 108 ∨ 109 ≤ j) → en2 j = en j := fun j o0 o1 o2 o3 o4 o5 => (fr j (by omega)).trans (hfr j o0 o1 o2 o3 o4 o5)
      refine G_iconst hC (v := 0) (by decide) dX11_read_60 ?_
      refine G_istore_n hC 1 [(1, .int (0 : Int32)), (0, .ref (ad 100))] rfl (by decide) rfl dX11_read_61 ?_
      refine G_lv [1, 0] rfl ?_
      exact hL62 FU _ _ _ _ _ _ _ _ _ _ _ e_model e_mwarr e_mnamesarr e_mtextarr e_miwordarr e_minamearr e_mnumberarr hfr h
    have h := ifn c42 h
    refine G_bipush hC (v := (-10)) (by decide) dX11_read_45 ?_
    refine G_aload_n hC 0 0 rfl rfl dX11_read_47 ?_
    refine G_get hC inX11 100 (by omega) (v := .int mfault) e_model rfl 14 (by decide) m154 rfl rfl dX11_read_48 ?_
    refine G_isub hC dX11_read_51 ?_
    have h := Option.some.inj h
    subst h
    exact Kr _ _ _ _ (nar_i _) ⟨rfl, e_model, e_mwarr, e_mnamesarr, e_miwordarr, e_minamearr, e_mnumberarr, hfr⟩ dX11_read_52
  have hL15 : ∀ (fu15 : Nat), ∀ (en1 : Nat → va_E) (mw : Nat → Int32) (mnames : Nat → Int64) (mundo : Int32) (miword : Nat → Int32) (miname : Nat → Int64) (mnumber : Nat → Int32) (mitems : Int32) (mat : Int32) (mfault : Int32), en1 100 = .inr (8, [.ref (ad 101), .ref (ad 102), .ref (ad 103), .ref (ad 104), .int mtexted, .int mundo, .long mabove, .long mbelow, .ref (ad 105), .ref (ad 106), .ref (ad 107), .ref (ad 108), .int mitems, .int mat, .int mfault, .int mtakes, .long mmisses, .long mbest, .ref (ad 109), .long mh]) → en1 101 = .inl (cs 1, 960, .inl (mw)) → en1 102 = .inl (cs 2, 96, .inr (.inl (mnames))) → en1 104 = .inl (cs 1, 300, .inl (mtext)) → en1 106 = .inl (cs 1, 60, .inl (miword)) → en1 107 = .inl (cs 2, 60, .inr (.inl (miname))) → en1 108 = .inl (cs 1, 300, .inl (mnumber)) → (∀ j, (j < 100 ∨ 101 ≤ j) → (j < 101 ∨ 102 ≤ j) → (j < 102 ∨ 103 ≤ j) → (j < 106 ∨ 107 ≤ j) → (j < 107 ∨ 108 ≤ j) → (j < 108 ∨ 109 ≤ j) → en1 j = en j) → f_X11_read_L15 mtext mtexted fu15 mw mnames mundo miword miname mnumber mitems mat mfault = some q → G p l e ({ frames := 4, cells := 0, slots := 0, locals := 102 } : Room) s m args below meth c D n ad A 2 0 0 Q en1 15 [(0, .ref (ad 100))] [] := by
    intro fu15
    induction fu15 with
    | zero =>
      intro en1 mw mnames mundo miword miname mnumber mitems mat mfault e_model e_mwarr e_mnamesarr e_mtextarr e_miwordarr e_minamearr e_mnumberarr hfr h
      rw [f_X11_read_L15] at h
      cases h
    | succ fu15 ih15 =>
      intro en1 mw mnames mundo miword miname mnumber mitems mat mfault e_model e_mwarr e_mnamesarr e_mtextarr e_miwordarr e_minamearr e_mnumberarr hfr h
      rw [f_X11_read_L15] at h
      refine G_aload_n hC 0 0 rfl rfl dX11_read_15 ?_
      refine G_get hC inX11 100 (by omega) (v := .int mfault) e_model rfl 14 (by decide) m154 rfl rfl dX11_read_16 ?_
      refine G_iconst hC (v := (-1)) (by decide) dX11_read_19 ?_
      refine G_icmp_ne hC 37 dX11_read_20 (by decide) (fun c20 => ?_) (fun c20 => ?_)
      · have h := ifn c20 h
        refine G_lv [0] rfl ?_
        exact hB37 _ _ _ _ _ _ _ _ _ _ e_model e_mwarr e_mnamesarr e_mtextarr e_miwordarr e_minamearr e_mnumberarr hfr h
      have h := ifp c20 h
      refine G_aload_n hC 0 0 rfl rfl dX11_read_23 ?_
      obtain ⟨q24, h24, h⟩ := bnd h
      refine G_cVi (st := []) hC _ 100 (by omega) (c_X11_isEnd  l (by omega) e_model e_mtextarr h24) (cwV 0 hC.hts gX11_read_X11_isEnd rfl rfl rfl (by decide +kernel) ⟨Nat.le_of_ble_eq_true rfl, Nat.le_of_ble_eq_true rfl⟩) e_model rfl rfl (Nat.le_of_ble_eq_true rfl) (Nat.zero_le _) (Nat.zero_le _) rfl dX11_read_24 (fun r24 en2 hw => ?_)
      obtain ⟨rfl, e_model, fr⟩ := hw
      have e_mwarr := (fr 101 (by omega)).trans e_mwarr
      have e_mnamesarr := (fr 102 (by omega)).trans e_mnamesarr
      have e_mtextarr := (fr 104 (by omega)).trans e_mtextarr
      have e_miwordarr := (fr 106 (by omega)).trans e_miwordarr
      have e_minamearr := (fr 107 (by omega)).trans e_minamearr
      have e_mnumberarr := (fr 108 (by omega)).trans e_mnumberarr
      have hfr : ∀ j, (j < 100 ∨ 101 ≤ j) → (j < 101 ∨ 102 ≤ j) → (j < 102 ∨ 103 ≤ j) → (j < 106 ∨ 107 ≤ j) → (j < 107 ∨ 108 ≤ j) → (j < 108 ∨ 109 ≤ j) → en2 j = en j := fun j o0 o1 o2 o3 o4 o5 => (fr j (by omega)).trans (hfr j o0 o1 o2 o3 o4 o5)
      refine G_if_ne hC 37 dX11_read_27 (by decide) (fun c27 => ?_) (fun c27 => ?_)
      · have h := ifn c27 h
        refine G_lv [0] rfl ?_
        exact hB37 _ _ _ _ _ _ _ _ _ _ e_model e_mwarr e_mnamesarr e_mtextarr e_miwordarr e_minamearr e_mnumberarr hfr h
      have h := ifp c27 h
      refine G_aload_n hC 0 0 rfl rfl dX11_read_30 ?_
      obtain ⟨q31, h31, h⟩ := bnd h
      refine G_cVv (st := []) hC _ 100 (by omega) (c_X11_takeItem  l (by omega) e_model e_mtextarr e_miwordarr e_minamearr e_mnumberarr h31) (cwV 0 hC.hts gX11_read_X11_takeItem rfl rfl rfl (by decide +kernel) ⟨Nat.le_of_ble_eq_true rfl, Nat.le_of_ble_eq_true rfl⟩) e_model rfl rfl (Nat.le_of_ble_eq_true rfl) (Nat.zero_le _) (Nat.zero_le _) rfl dX11_read_31 (fun en3 hw => ?_)
      obtain ⟨e_model, e_miwordarr, e_minamearr, e_mnumberarr, fr⟩ := hw
      have e_mwarr := (fr 101 (by omega) (by omega) (by omega) (by omega)).trans e_mwarr
      have e_mnamesarr := (fr 102 (by omega) (by omega) (by omega) (by omega)).trans e_mnamesarr
      have e_mtextarr := (fr 104 (by omega) (by omega) (by omega) (by omega)).trans e_mtextarr
      have hfr : ∀ j, (j < 100 ∨ 101 ≤ j) → (j < 101 ∨ 102 ≤ j) → (j < 102 ∨ 103 ≤ j) → (j < 106 ∨ 107 ≤ j) → (j < 107 ∨ 108 ≤ j) → (j < 108 ∨ 109 ≤ j) → en3 j = en j := fun j o0 o1 o2 o3 o4 o5 => (fr j (by omega) (by omega) (by omega) (by omega)).trans (hfr j o0 o1 o2 o3 o4 o5)
      refine G_goto hC 15 dX11_read_34 (by decide) ?_
      refine G_lv [0] rfl ?_
      exact ih15 _ _ _ _ _ _ _ _ _ _ e_model e_mwarr e_mnamesarr e_mtextarr e_miwordarr e_minamearr e_mnumberarr hfr h
  unfold f_X11_read at h
  have hfr : ∀ j, (j < 100 ∨ 101 ≤ j) → (j < 101 ∨ 102 ≤ j) → (j < 102 ∨ 103 ≤ j) → (j < 106 ∨ 107 ≤ j) → (j < 107 ∨ 108 ≤ j) → (j < 108 ∨ 109 ≤ j) → en j = en j := fun _ _ _ _ _ _ _ => rfl
  refine G_aload_n hC 0 0 rfl rfl dX11_read_0 ?_
  refine G_iconst hC (v := 0) (by decide) dX11_read_1 ?_
  refine G_put hC inX11 tyX11 tyX11_ok nmX11 100 (by omega) e_model rfl 13 (by decide) m129 rfl rfl (ty := .int) rfl rfl rfl (Nat.le_of_ble_eq_true rfl) dX11_read_2 (fun en2 e_model fr => ?_)
  have e_model : en2 100 = .inr (8, [.ref (ad 101), .ref (ad 102), .ref (ad 103), .ref (ad 104), .int mtexted, .int mundo, .long mabove, .long mbelow, .ref (ad 105), .ref (ad 106), .ref (ad 107), .ref (ad 108), .int mitems, .int (0 : Int32), .int mfault, .int mtakes, .long mmisses, .long mbest, .ref (ad 109), .long mh]) := e_model
  have e_mwarr := (fr 101 (by omega)).trans e_mwarr
  have e_mnamesarr := (fr 102 (by omega)).trans e_mnamesarr
  have e_mtextarr := (fr 104 (by omega)).trans e_mtextarr
  have e_miwordarr := (fr 106 (by omega)).trans e_miwordarr
  have e_minamearr := (fr 107 (by omega)).trans e_minamearr
  have e_mnumberarr := (fr 108 (by omega)).trans e_mnumberarr
  have hfr : ∀ j, (j < 100 ∨ 101 ≤ j) → (j < 101 ∨ 102 ≤ j) → (j < 102 ∨ 103 ≤ j) → (j < 106 ∨ 107 ≤ j) → (j < 107 ∨ 108 ≤ j) → (j < 108 ∨ 109 ≤ j) → en2 j = en j := fun j o0 o1 o2 o3 o4 o5 => (fr j (by omega)).trans (hfr j o0 o1 o2 o3 o4 o5)
  refine G_aload_n hC 0 0 rfl rfl dX11_read_5 ?_
  refine G_iconst hC (v := 0) (by decide) dX11_read_6 ?_
  refine G_put hC inX11 tyX11 tyX11_ok nmX11 100 (by omega) e_model rfl 12 (by decide) m168 rfl rfl (ty := .int) rfl rfl rfl (Nat.le_of_ble_eq_true rfl) dX11_read_7 (fun en3 e_model fr => ?_)
  have e_model : en3 100 = .inr (8, [.ref (ad 101), .ref (ad 102), .ref (ad 103), .ref (ad 104), .int mtexted, .int mundo, .long mabove, .long mbelow, .ref (ad 105), .ref (ad 106), .ref (ad 107), .ref (ad 108), .int (0 : Int32), .int (0 : Int32), .int mfault, .int mtakes, .long mmisses, .long mbest, .ref (ad 109), .long mh]) := e_model
  have e_mwarr := (fr 101 (by omega)).trans e_mwarr
  have e_mnamesarr := (fr 102 (by omega)).trans e_mnamesarr
  have e_mtextarr := (fr 104 (by omega)).trans e_mtextarr
  have e_miwordarr := (fr 106 (by omega)).trans e_miwordarr
  have e_minamearr := (fr 107 (by omega)).trans e_minamearr
  have e_mnumberarr := (fr 108 (by omega)).trans e_mnumberarr
  have hfr : ∀ j, (j < 100 ∨ 101 ≤ j) → (j < 101 ∨ 102 ≤ j) → (j < 102 ∨ 103 ≤ j) → (j < 106 ∨ 107 ≤ j) → (j < 107 ∨ 108 ≤ j) → (j < 108 ∨ 109 ≤ j) → en3 j = en j := fun j o0 o1 o2 o3 o4 o5 => (fr j (by omega)).trans (hfr j o0 o1 o2 o3 o4 o5)
  refine G_aload_n hC 0 0 rfl rfl dX11_read_10 ?_
  refine G_iconst hC (v := (-1)) (by decide) dX11_read_11 ?_
  refine G_put hC inX11 tyX11 tyX11_ok nmX11 100 (by omega) e_model rfl 14 (by decide) m154 rfl rfl (ty := .int) rfl rfl rfl (Nat.le_of_ble_eq_true rfl) dX11_read_12 (fun en4 e_model fr => ?_)
  have e_model : en4 100 = .inr (8, [.ref (ad 101), .ref (ad 102), .ref (ad 103), .ref (ad 104), .int mtexted, .int mundo, .long mabove, .long mbelow, .ref (ad 105), .ref (ad 106), .ref (ad 107), .ref (ad 108), .int (0 : Int32), .int (0 : Int32), .int (-1 : Int32), .int mtakes, .long mmisses, .long mbest, .ref (ad 109), .long mh]) := e_model
  have e_mwarr := (fr 101 (by omega)).trans e_mwarr
  have e_mnamesarr := (fr 102 (by omega)).trans e_mnamesarr
  have e_mtextarr := (fr 104 (by omega)).trans e_mtextarr
  have e_miwordarr := (fr 106 (by omega)).trans e_miwordarr
  have e_minamearr := (fr 107 (by omega)).trans e_minamearr
  have e_mnumberarr := (fr 108 (by omega)).trans e_mnumberarr
  have hfr : ∀ j, (j < 100 ∨ 101 ≤ j) → (j < 101 ∨ 102 ≤ j) → (j < 102 ∨ 103 ≤ j) → (j < 106 ∨ 107 ≤ j) → (j < 107 ∨ 108 ≤ j) → (j < 108 ∨ 109 ≤ j) → en4 j = en j := fun j o0 o1 o2 o3 o4 o5 => (fr j (by omega)).trans (hfr j o0 o1 o2 o3 o4 o5)
  refine G_lv [0] rfl ?_
  exact hL15 FU _ _ _ _ _ _ _ _ _ _ e_model e_mwarr e_mnamesarr e_mtextarr e_miwordarr e_minamearr e_mnumberarr hfr h
