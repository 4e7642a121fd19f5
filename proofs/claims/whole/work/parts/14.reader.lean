def f_J0_coder_7d493 (istr : Nat)  : Option (Int32) := some (0 : Int32)
set_option maxHeartbeats 4000000 in
set_option maxRecDepth 100000 in
theorem c_J0_coder_7d493 {D : va_G} {cs : Nat → ClassId} {sa : Nat → Nat} {n : Nat} {ad : Nat → Nat} {A : Nat → Prop} (l : Launch) {en : Nat → va_E}  {istr : Nat}  (histr : istr < 5) {q : Int32}   (h : f_J0_coder_7d493 istr = some q) : Met l yJ0_coder_7d493 wsJ0_coder_7d493 { frames := 0, cells := 0, slots := 0, locals := 0 } (va_Pc [.ref (sa (10 + istr))] (Wd D cs sa n ad A en)) (va_Qi (fun r u => q = r ∧ en = u) (Wd D cs sa n ad A) A) 0 0 A := by
  refine G_startI cJ0_coder_7d493 1 [(0, .ref (sa (10 + istr)))] (by decide) rfl (Nat.le_of_ble_eq_true rfl) rfl ?_
  intro p e s m args below meth c Q hC hnm Kr
  have m15 : Cond.fieldLink RJ0 15 "java/lang/String" "coder" "B" ∈ wsJ0_coder_7d493 := by decide +kernel
  have m38 : Cond.fieldLink RJ0 38 "java/lang/String" "COMPACT_STRINGS" "Z" ∈ wsJ0_coder_7d493 := by decide +kernel
  unfold f_J0_coder_7d493 at h
  refine G_compact hC m38 dJ0_coder_7d493_0 ?_
  refine G_if_eq hC 13 dJ0_coder_7d493_3 (by decide) (fun c3 => absurd c3 (by decide)) (fun c3 => ?_)
  refine G_aload_n hC 0 0 rfl rfl dJ0_coder_7d493_6 ?_
  refine G_scod hC istr histr m15 dJ0_coder_7d493_7 ?_
  refine G_goto hC 14 dJ0_coder_7d493_10 (by decide) ?_
  have h := Option.some.inj h
  subst h
  exact Kr _ _ _ _ (by decide) ⟨rfl, rfl⟩ dJ0_coder_7d493_14
def f_J0_length_8abf5 (istr : Nat)  : Option (Int32) := Option.bind (f_J0_coder_7d493 istr) (fun q6 => some ((Int32.ofNat (strLen.getD istr 0)) >>> (q6 &&& (31 : Int32))))
set_option maxHeartbeats 4000000 in
set_option maxRecDepth 100000 in
theorem c_J0_length_8abf5 {D : va_G} {cs : Nat → ClassId} {sa : Nat → Nat} {n : Nat} {ad : Nat → Nat} {A : Nat → Prop} (l : Launch) {en : Nat → va_E}  {istr : Nat}  (histr : istr < 5) {q : Int32}   (h : f_J0_length_8abf5 istr = some q) : Met l yJ0_length_8abf5 wsJ0_length_8abf5 { frames := 1, cells := 0, slots := 0, locals := 20 } (va_Pc [.ref (sa (10 + istr))] (Wd D cs sa n ad A en)) (va_Qi (fun r u => q = r ∧ en = u) (Wd D cs sa n ad A) A) 0 0 A := by
  refine G_startI cJ0_length_8abf5 1 [(0, .ref (sa (10 + istr)))] (by decide) rfl (Nat.le_of_ble_eq_true rfl) rfl ?_
  intro p e s m args below meth c Q hC hnm Kr
  have m9 : Cond.fieldLink RJ0 9 "java/lang/String" "value" "[B" ∈ wsJ0_length_8abf5 := by decide +kernel
  unfold f_J0_length_8abf5 at h
  refine G_aload_n hC 0 0 rfl rfl dJ0_length_8abf5_0 ?_
  refine G_sval hC istr histr m9 dJ0_length_8abf5_1 ?_
  refine G_slen hC istr histr dJ0_length_8abf5_4 ?_
  refine G_aload_n hC 0 0 rfl rfl dJ0_length_8abf5_5 ?_
  obtain ⟨q6, h6, h⟩ := bnd h
  refine G_cTi (st := [.int (Int32.ofNat (strLen.getD istr 0))]) hC _ istr histr (c_J0_coder_7d493 (istr := istr) l histr h6) (cwV 0 hC.hts gJ0_length_8abf5_J0_coder_7d493 rfl rfl rfl (by decide +kernel) ⟨Nat.le_of_ble_eq_true rfl, Nat.le_of_ble_eq_true rfl⟩) rfl (Nat.le_of_ble_eq_true rfl) (Nat.zero_le _) (Nat.zero_le _) rfl dJ0_length_8abf5_6 (fun r6 enx hw => ?_)
  obtain ⟨rfl, rfl⟩ := hw
  refine G_ishr hC dJ0_length_8abf5_9 ?_
  have h := Option.some.inj h
  subst h
  exact Kr _ _ _ _ (nar_i _) ⟨rfl, rfl⟩ dJ0_length_8abf5_10
def f_J0_isLatin1_aae02 (istr : Nat)  : Option (Int32) := some (1 : Int32)
set_option maxHeartbeats 4000000 in
set_option maxRecDepth 100000 in
theorem c_J0_isLatin1_aae02 {D : va_G} {cs : Nat → ClassId} {sa : Nat → Nat} {n : Nat} {ad : Nat → Nat} {A : Nat → Prop} (l : Launch) {en : Nat → va_E}  {istr : Nat}  (histr : istr < 5) {q : Int32}   (h : f_J0_isLatin1_aae02 istr = some q) : Met l yJ0_isLatin1_aae02 wsJ0_isLatin1_aae02 { frames := 0, cells := 0, slots := 0, locals := 0 } (va_Pc [.ref (sa (10 + istr))] (Wd D cs sa n ad A en)) (va_Qi (fun r u => q = r ∧ en = u) (Wd D cs sa n ad A) A) 0 0 A := by
  refine G_startI cJ0_isLatin1_aae02 1 [(0, .ref (sa (10 + istr)))] (by decide) rfl (Nat.le_of_ble_eq_true rfl) rfl ?_
  intro p e s m args below meth c Q hC hnm Kr
  have m15 : Cond.fieldLink RJ0 15 "java/lang/String" "coder" "B" ∈ wsJ0_isLatin1_aae02 := by decide +kernel
  have m38 : Cond.fieldLink RJ0 38 "java/lang/String" "COMPACT_STRINGS" "Z" ∈ wsJ0_isLatin1_aae02 := by decide +kernel
  unfold f_J0_isLatin1_aae02 at h
  refine G_compact hC m38 dJ0_isLatin1_aae02_0 ?_
  refine G_if_eq hC 17 dJ0_isLatin1_aae02_3 (by decide) (fun c3 => absurd c3 (by decide)) (fun c3 => ?_)
  refine G_aload_n hC 0 0 rfl rfl dJ0_isLatin1_aae02_6 ?_
  refine G_scod hC istr histr m15 dJ0_isLatin1_aae02_7 ?_
  refine G_if_ne hC 17 dJ0_isLatin1_aae02_10 (by decide) (fun c10 => absurd c10 (by decide)) (fun c10 => ?_)
  refine G_iconst hC (v := 1) (by decide) dJ0_isLatin1_aae02_13 ?_
  refine G_goto hC 18 dJ0_isLatin1_aae02_14 (by decide) ?_
  have h := Option.some.inj h
  subst h
  exact Kr _ _ _ _ (by decide) ⟨rfl, rfl⟩ dJ0_isLatin1_aae02_18
def f_J3_checkIndex_8e157  (x0 : Int32) (x1 : Int32) : Option (Int32) := if x0 < 0 then (none) else (if x0 < x1 then (some x0) else (none))
set_option maxHeartbeats 4000000 in
set_option maxRecDepth 100000 in
theorem c_J3_checkIndex_8e157 {D : va_G} {cs : Nat → ClassId} {sa : Nat → Nat} {n : Nat} {ad : Nat → Nat} {A : Nat → Prop} (l : Launch) {en : Nat → va_E}   {x0 : Int32} {x1 : Int32} {tx : Nat} (htx : True) {q : Int32}   (h : f_J3_checkIndex_8e157 x0 x1 = some q) : Met l yJ3_checkIndex_8e157 wsJ3_checkIndex_8e157 { frames := 0, cells := 0, slots := 0, locals := 0 } (va_Pc [.int x0, .int x1, .ref tx] (Wd D cs sa n ad A en)) (va_Qi (fun r u => q = r ∧ en = u) (Wd D cs sa n ad A) A) 0 0 A := by
  refine G_startI cJ3_checkIndex_8e157 3 [(0, .int x0), (1, .int x1), (2, .ref tx)] (by decide) rfl (Nat.le_of_ble_eq_true rfl) rfl ?_
  intro p e s m args below meth c Q hC hnm Kr
  unfold f_J3_checkIndex_8e157 at h
  refine G_iload_n hC 0 0 rfl rfl dJ3_checkIndex_8e157_0 ?_
  refine G_if_lt hC 9 dJ3_checkIndex_8e157_1 (by decide) (fun c1 => ?_) (fun c1 => ?_)
  · have h := ifp c1 h
    cases h
  have h := ifn c1 h
  refine G_iload_n hC 0 0 rfl rfl dJ3_checkIndex_8e157_4 ?_
  refine G_iload_n hC 1 1 rfl rfl dJ3_checkIndex_8e157_5 ?_
  refine G_icmp_lt hC 16 dJ3_checkIndex_8e157_6 (by decide) (fun c6 => ?_) (fun c6 => ?_)
  · have h := ifp c6 h
    refine G_iload_n hC 0 0 rfl rfl dJ3_checkIndex_8e157_16 ?_
    have h := Option.some.inj h
    subst h
    exact Kr _ _ _ _ (nar_i _) ⟨rfl, rfl⟩ dJ3_checkIndex_8e157_17
  have h := ifn c6 h
  cases h
set_option maxHeartbeats 4000000 in
set_option maxRecDepth 100000 in
theorem c_J3_checkIndex_8e157_nul {D : va_G} {cs : Nat → ClassId} {sa : Nat → Nat} {n : Nat} {ad : Nat → Nat} {A : Nat → Prop} (l : Launch) {en : Nat → va_E}   {x0 : Int32} {x1 : Int32}  {q : Int32}   (h : f_J3_checkIndex_8e157 x0 x1 = some q) : Met l yJ3_checkIndex_8e157 wsJ3_checkIndex_8e157 { frames := 0, cells := 0, slots := 0, locals := 0 } (va_Pc [.int x0, .int x1, .null] (Wd D cs sa n ad A en)) (va_Qi (fun r u => q = r ∧ en = u) (Wd D cs sa n ad A) A) 0 0 A := by
  refine G_startI cJ3_checkIndex_8e157 3 [(0, .int x0), (1, .int x1), (2, .null)] (by decide) rfl (Nat.le_of_ble_eq_true rfl) rfl ?_
  intro p e s m args below meth c Q hC hnm Kr
  unfold f_J3_checkIndex_8e157 at h
  refine G_iload_n hC 0 0 rfl rfl dJ3_checkIndex_8e157_0 ?_
  refine G_if_lt hC 9 dJ3_checkIndex_8e157_1 (by decide) (fun c1 => ?_) (fun c1 => ?_)
  · have h := ifp c1 h
    cases h
  have h := ifn c1 h
  refine G_iload_n hC 0 0 rfl rfl dJ3_checkIndex_8e157_4 ?_
  refine G_iload_n hC 1 1 rfl rfl dJ3_checkIndex_8e157_5 ?_
  refine G_icmp_lt hC 16 dJ3_checkIndex_8e157_6 (by decide) (fun c6 => ?_) (fun c6 => ?_)
  · have h := ifp c6 h
    refine G_iload_n hC 0 0 rfl rfl dJ3_checkIndex_8e157_16 ?_
    have h := Option.some.inj h
    subst h
    exact Kr _ _ _ _ (nar_i _) ⟨rfl, rfl⟩ dJ3_checkIndex_8e157_17
  have h := ifn c6 h
  cases h
def f_J0_checkIndex_df160  (x0 : Int32) (x1 : Int32) : Option (Unit) := Option.bind (f_J3_checkIndex_8e157 x0 x1) (fun q5 => some ())
set_option maxHeartbeats 4000000 in
set_option maxRecDepth 100000 in
theorem c_J0_checkIndex_df160 {D : va_G} {cs : Nat → ClassId} {sa : Nat → Nat} {n : Nat} {ad : Nat → Nat} {A : Nat → Prop} (l : Launch) {en : Nat → va_E}   {x0 : Int32} {x1 : Int32}  {q : Unit}   (h : f_J0_checkIndex_df160 x0 x1 = some q) : Met l yJ0_checkIndex_df160 wsJ0_checkIndex_df160 { frames := 1, cells := 0, slots := 0, locals := 22 } (va_Pc [.int x0, .int x1] (Wd D cs sa n ad A en)) (va_Qv (fun u => en = u) (Wd D cs sa n ad A) A) 0 0 A := by
  refine G_startV cJ0_checkIndex_df160 2 [(0, .int x0), (1, .int x1)] (by decide) rfl (Nat.le_of_ble_eq_true rfl) rfl ?_
  intro p e s m args below meth c Q hC hnm Kr
  have m1053 : Cond.fieldLink RJ0 1053 "jdk/internal/util/Preconditions" "SIOOBE_FORMATTER" "Ljava/util/function/BiFunction;" ∈ wsJ0_checkIndex_df160 := by decide +kernel
  unfold f_J0_checkIndex_df160 at h
  refine G_iload_n hC 0 0 rfl rfl dJ0_checkIndex_df160_0 ?_
  refine G_iload_n hC 1 1 rfl rfl dJ0_checkIndex_df160_1 ?_
  refine G_sio hC m1053 dJ0_checkIndex_df160_2 ?_ (fun tx => ?_)
  · obtain ⟨q5, h5, h⟩ := bnd h
    refine G_cSi (st := []) hC _ (c_J3_checkIndex_8e157_nul  l  h5) (va_cwS 3 hC.hts gJ0_checkIndex_df160_J3_checkIndex_8e157 rfl rfl rfl (by decide +kernel) ⟨Nat.le_of_ble_eq_true rfl, Nat.le_of_ble_eq_true rfl⟩) rfl (Nat.le_of_ble_eq_true rfl) (Nat.zero_le _) (Nat.zero_le _) rfl dJ0_checkIndex_df160_5 (fun r5 enx hw => ?_)
    obtain ⟨rfl, rfl⟩ := hw
    refine G_pop hC rfl dJ0_checkIndex_df160_8 ?_
    have h := Option.some.inj h
    subst h
    exact Kr _ _ _ rfl dJ0_checkIndex_df160_9
  obtain ⟨q5, h5, h⟩ := bnd h
  refine G_cSi (st := []) hC _ (c_J3_checkIndex_8e157 (tx := tx) l trivial h5) (va_cwS 3 hC.hts gJ0_checkIndex_df160_J3_checkIndex_8e157 rfl rfl rfl (by decide +kernel) ⟨Nat.le_of_ble_eq_true rfl, Nat.le_of_ble_eq_true rfl⟩) rfl (Nat.le_of_ble_eq_true rfl) (Nat.zero_le _) (Nat.zero_le _) rfl dJ0_checkIndex_df160_5 (fun r5 enx hw => ?_)
  obtain ⟨rfl, rfl⟩ := hw
  refine G_pop hC rfl dJ0_checkIndex_df160_8 ?_
  have h := Option.some.inj h
  subst h
  exact Kr _ _ _ rfl dJ0_checkIndex_df160_9
theorem i2c_nar (x : Int32) : (x.toUInt32 % 65536).toInt32 = vp_nar .char ((x.toUInt32 % 65536).toInt32) := by
  rw [vp_nar_char]
  have h : ∀ y : UInt32, y < 65536 → y.toUInt16.toUInt32 = y := by
    intro y hy
    apply UInt32.toNat_inj.mp
    have hy2 : y.toNat < 65536 := hy
    simp only [UInt16.toNat_toUInt32, UInt32.toNat_toUInt16]
    omega
  have h2 : (x.toUInt32 % 65536).toInt32.toUInt32 = x.toUInt32 % 65536 := by simp
  rw [h2, h _ (by rw [UInt32.lt_iff_toNat_lt, UInt32.toNat_mod]; exact Nat.mod_lt _ (by decide))]
def f_J1_charAt_3b067 (istr : Nat) (x1 : Int32) : Option (Int32) := Option.bind (f_J0_checkIndex_df160 x1 (Int32.ofNat (strLen.getD istr 0))) (fun q3 => if x1 < 0 ∨ strLen.getD istr 0 ≤ x1.toNatClampNeg then none else (some (((((strByt.getD istr []).getD x1.toNatClampNeg 0) &&& (255 : Int32)).toUInt32 % 65536).toInt32)))
set_option maxHeartbeats 4000000 in
set_option maxRecDepth 100000 in
theorem c_J1_charAt_3b067 {D : va_G} {cs : Nat → ClassId} {sa : Nat → Nat} {n : Nat} {ad : Nat → Nat} {A : Nat → Prop} (l : Launch) {en : Nat → va_E}  {istr : Nat} {x1 : Int32} (histr : istr < 5) {q : Int32}   (h : f_J1_charAt_3b067 istr x1 = some q) : Met l yJ1_charAt_3b067 wsJ1_charAt_3b067 { frames := 2, cells := 0, slots := 0, locals := 43 } (va_Pc [.ref (sa (20 + istr)), .int x1] (Wd D cs sa n ad A en)) (va_Qi (fun r u => q = r ∧ en = u) (Wd D cs sa n ad A) A) 0 0 A := by
  refine G_startI cJ1_charAt_3b067 2 [(0, .ref (sa (20 + istr))), (1, .int x1)] (by decide) rfl (Nat.le_of_ble_eq_true rfl) rfl ?_
  intro p e s m args below meth c Q hC hnm Kr
  unfold f_J1_charAt_3b067 at h
  refine G_iload_n hC 1 1 rfl rfl dJ1_charAt_3b067_0 ?_
  refine G_aload_n hC 0 0 rfl rfl dJ1_charAt_3b067_1 ?_
  refine G_slen hC istr histr dJ1_charAt_3b067_2 ?_
  obtain ⟨q3, h3, h⟩ := bnd h
  refine G_cSv (st := []) hC _ (c_J0_checkIndex_df160  l  h3) (va_cwS 2 hC.hts gJ1_charAt_3b067_J0_checkIndex_df160 rfl rfl rfl (by decide +kernel) ⟨Nat.le_of_ble_eq_true rfl, Nat.le_of_ble_eq_true rfl⟩) rfl (Nat.le_of_ble_eq_true rfl) (Nat.zero_le _) (Nat.zero_le _) rfl dJ1_charAt_3b067_3 (fun enx hw => ?_)
  subst hw
  refine G_aload_n hC 0 0 rfl rfl dJ1_charAt_3b067_6 ?_
  refine G_iload_n hC 1 1 rfl rfl dJ1_charAt_3b067_7 ?_
  obtain ⟨g8, h⟩ := asn h
  refine G_sbyt hC istr histr g8 dJ1_charAt_3b067_8 ?_
  refine G_sipush hC (v := 255) (by decide) dJ1_charAt_3b067_9 ?_
  refine G_iand hC dJ1_charAt_3b067_12 ?_
  refine G_i2c hC dJ1_charAt_3b067_13 ?_
  have h := Option.some.inj h
  subst h
  exact Kr _ _ _ _ (nar_c (i2c_nar _)) ⟨rfl, rfl⟩ dJ1_charAt_3b067_14
theorem J1_nar {i : Nat} {x q : Int32} (h : f_J1_charAt_3b067 i x = some q) : narrow .char (.int q) = .int q := by
  unfold f_J1_charAt_3b067 at h
  obtain ⟨_, _, h⟩ := bnd h
  obtain ⟨_, h⟩ := asn h
  have h := Option.some.inj h
  subst h
  exact nar_c (i2c_nar _)
def f_J0_charAt_5068e (istr : Nat) (x1 : Int32) : Option (Int32) := Option.bind (f_J0_isLatin1_aae02 istr) (fun q1 => if q1 = 0 then (none) else (Option.bind (f_J1_charAt_3b067 istr x1) (fun q12 => some q12)))
set_option maxHeartbeats 4000000 in
set_option maxRecDepth 100000 in
theorem c_J0_charAt_5068e {D : va_G} {cs : Nat → ClassId} {sa : Nat → Nat} {n : Nat} {ad : Nat → Nat} {A : Nat → Prop} (l : Launch) {en : Nat → va_E}  {istr : Nat} {x1 : Int32} (histr : istr < 5) {q : Int32}   (h : f_J0_charAt_5068e istr x1 = some q) : Met l yJ0_charAt_5068e wsJ0_charAt_5068e { frames := 3, cells := 0, slots := 0, locals := 64 } (va_Pc [.ref (sa (10 + istr)), .int x1] (Wd D cs sa n ad A en)) (va_Qi (fun r u => q = r ∧ en = u) (Wd D cs sa n ad A) A) 0 0 A := by
  refine G_startI cJ0_charAt_5068e 2 [(0, .ref (sa (10 + istr))), (1, .int x1)] (by decide) rfl (Nat.le_of_ble_eq_true rfl) rfl ?_
  intro p e s m args below meth c Q hC hnm Kr
  have m9 : Cond.fieldLink RJ0 9 "java/lang/String" "value" "[B" ∈ wsJ0_charAt_5068e := by decide +kernel
  unfold f_J0_charAt_5068e at h
  refine G_aload_n hC 0 0 rfl rfl dJ0_charAt_5068e_0 ?_
  obtain ⟨q1, h1, h⟩ := bnd h
  refine G_cTi (st := []) hC _ istr histr (c_J0_isLatin1_aae02 (istr := istr) l histr h1) (cwV 0 hC.hts gJ0_charAt_5068e_J0_isLatin1_aae02 rfl rfl rfl (by decide +kernel) ⟨Nat.le_of_ble_eq_true rfl, Nat.le_of_ble_eq_true rfl⟩) rfl (Nat.le_of_ble_eq_true rfl) (Nat.zero_le _) (Nat.zero_le _) rfl dJ0_charAt_5068e_1 (fun r1 enx hw => ?_)
  obtain ⟨rfl, rfl⟩ := hw
  refine G_if_eq hC 16 dJ0_charAt_5068e_4 (by decide) (fun c4 => ?_) (fun c4 => ?_)
  · have h := ifp c4 h
    cases h
  have h := ifn c4 h
  refine G_aload_n hC 0 0 rfl rfl dJ0_charAt_5068e_7 ?_
  refine G_sval hC istr histr m9 dJ0_charAt_5068e_8 ?_
  refine G_iload_n hC 1 1 rfl rfl dJ0_charAt_5068e_11 ?_
  obtain ⟨q12, h12, h⟩ := bnd h
  refine G_cSi (st := []) hC _ (c_J1_charAt_3b067 (istr := istr) l histr h12) (va_cwS 2 hC.hts gJ0_charAt_5068e_J1_charAt_3b067 rfl rfl rfl (by decide +kernel) ⟨Nat.le_of_ble_eq_true rfl, Nat.le_of_ble_eq_true rfl⟩) rfl (Nat.le_of_ble_eq_true rfl) (Nat.zero_le _) (Nat.zero_le _) rfl dJ0_charAt_5068e_12 (fun r12 enx hw => ?_)
  obtain ⟨rfl, rfl⟩ := hw
  have h := Option.some.inj h
  subst h
  exact Kr _ _ _ _ (J1_nar h12) ⟨rfl, rfl⟩ dJ0_charAt_5068e_15
def f_X6_isWord_B62 (istr : Nat) (tlen : Int32) (tby : Nat → Int32) (rstart : Int32) (rbehind : Int32) (rL24 : Int32 → Int32 → Option (Int32)) (x3 : Int32) (s0 : Int32) : Option (Int32) := rL24 s0 (x3 + (1 : Int32))
def f_X6_isWord_L24 (istr : Nat) (tlen : Int32) (tby : Nat → Int32) (rstart : Int32) (rbehind : Int32)  : Nat → Int32 → Int32 → Option (Int32)
  | 0, _, _ => none
  | fu + 1, x2, x3 => if x2 = 0 then (if x2 = 0 ∨ x2 = 1 then (some x2) else none) else (Option.bind (f_J0_length_8abf5 istr) (fun q30 => if q30 ≤ x3 then (if x2 = 0 ∨ x2 = 1 then (some x2) else none) else (Option.bind (f_X9_byteAt tlen tby (rstart + x3)) (fun q46 => Option.bind (f_J0_charAt_5068e istr x3) (fun q51 => if q46 = q51 then (f_X6_isWord_B62 istr tlen tby rstart rbehind (f_X6_isWord_L24 istr tlen tby rstart rbehind fu) x3 (1 : Int32)) else (f_X6_isWord_B62 istr tlen tby rstart rbehind (f_X6_isWord_L24 istr tlen tby rstart rbehind fu) x3 (0 : Int32)))))))
def f_X6_isWord_B21 (istr : Nat) (tlen : Int32) (tby : Nat → Int32) (rstart : Int32) (rbehind : Int32)  (s0 : Int32) : Option (Int32) := f_X6_isWord_L24 istr tlen tby rstart rbehind FU s0 (0 : Int32)
def f_X6_isWord (istr : Nat) (tlen : Int32) (tby : Nat → Int32) (rstart : Int32) (rbehind : Int32)  : Option (Int32) := Option.bind (f_J0_length_8abf5 istr) (fun q10 => if rbehind - rstart = q10 then (f_X6_isWord_B21 istr tlen tby rstart rbehind (1 : Int32)) else (f_X6_isWord_B21 istr tlen tby rstart rbehind (0 : Int32)))
set_option maxHeartbeats 4000000 in
set_option maxRecDepth 100000 in
theorem c_X6_isWord {D : va_G} {cs : Nat → ClassId} {sa : Nat → Nat} {n : Nat} {ad : Nat → Nat} {A : Nat → Prop} (l : Launch) {en : Nat → va_E}  {istr : Nat} {tlen : Int32} {tby : Nat → Int32} {rkind : Int32} {rstart : Int32} {rbehind : Int32} {rname : Int64} {ritems : Int32} {rfault : Int32} {rrefused : Int32}  (histr : istr < 5) {q : Int32} (hn : 110 ≤ n) (e_text : en 81 = .inr (6, [.ref (ad 82), .int tlen])) (e_reader : en 83 = .inr (3, [.ref (ad 81), .ref (ad 84), .ref (ad 95), .int rkind, .int rstart, .int rbehind, .long rname, .int ritems, .int rfault, .int rrefused])) (e_tbytes : en 82 = .inl (cs 0, 300, .inl (tby))) (h : f_X6_isWord istr tlen tby rstart rbehind = some q) : Met l yX6_isWord wsX6_isWord { frames := 4, cells := 0, slots := 0, locals := 85 } (va_Pc [.ref (ad 83), .ref (sa (10 + istr))] (Wd D cs sa n ad A en)) (va_Qi (fun r u => q = r ∧ en = u) (Wd D cs sa n ad A) A) 0 0 A := by
  refine G_startI cX6_isWord 4 [(0, .ref (ad 83)), (1, .ref (sa (10 + istr)))] (by decide) rfl (Nat.le_of_ble_eq_true rfl) rfl ?_
  intro p e s m args below meth c Q hC hnm Kr
  have inX6 : ∀ w ∈ u_ws RX6 TX6 10, w ∈ wsX6_isWord := by decide +kernel
  have m29 : Cond.fieldLink RX6 29 "TongueTip$Reader" "behind" "I" ∈ wsX6_isWord := by decide +kernel
  have m9 : Cond.fieldLink RX6 9 "TongueTip$Reader" "text" "LTongueTip$Text;" ∈ wsX6_isWord := by decide +kernel
  have m91 : Cond.fieldLink RX6 91 "TongueTip$Reader" "start" "I" ∈ wsX6_isWord := by decide +kernel
  have hL24 : ∀ (fu24 : Nat), ∀ (x2 : Int32) (x3 : Int32), f_X6_isWord_L24 istr tlen tby rstart rbehind fu24 x2 x3 = some q → G p l e ({ frames := 4, cells := 0, slots := 0, locals := 85 } : Room) s m args below meth c D n ad A 4 0 0 Q en 24 [(0, .ref (ad 83)), (1, .ref (sa (10 + istr))), (2, .int x2), (3, .int x3)] [] := by
    intro fu24
    induction fu24 with
    | zero =>
      intro x2 x3 h
      rw [f_X6_isWord_L24] at h
      cases h
    | succ fu24 ih24 =>
      have hB62 : ∀ (x3 : Int32) (s0 : Int32), f_X6_isWord_B62 istr tlen tby rstart rbehind (f_X6_isWord_L24 istr tlen tby rstart rbehind fu24) x3 s0 = some q → G p l e ({ frames := 4, cells := 0, slots := 0, locals := 85 } : Room) s m args below meth c D n ad A 4 0 0 Q en 62 [(0, .ref (ad 83)), (1, .ref (sa (10 + istr))), (3, .int x3)] [.int s0] := by
        intro x3 s0 h
        unfold f_X6_isWord_B62 at h
        refine G_istore_n hC 2 [(2, .int s0), (0, .ref (ad 83)), (1, .ref (sa (10 + istr))), (3, .int x3)] rfl (by decide) rfl dX6_isWord_62 ?_
        refine G_iinc hC 3 3 [(3, .int (x3 + (1 : Int32))), (2, .int s0), (0, .ref (ad 83)), (1, .ref (sa (10 + istr)))] rfl rfl (by decide) rfl dX6_isWord_63 ?_
        refine G_goto hC 24 dX6_isWord_66 (by decide) ?_
        refine G_lv [2, 3, 1, 0] rfl ?_
        exact ih24 _ _ h
      intro x2 x3 h
      rw [f_X6_isWord_L24] at h
      refine G_iload_n hC 2 2 rfl rfl dX6_isWord_24 ?_
      refine G_if_eq hC 69 dX6_isWord_25 (by decide) (fun c25 => ?_) (fun c25 => ?_)
      · have h := ifp c25 h
        refine G_iload_n hC 2 2 rfl rfl dX6_isWord_69 ?_
        obtain ⟨g70, h⟩ := asr h
        have h := Option.some.inj h
        subst h
        exact Kr _ _ _ _ (nar_b g70) ⟨rfl, rfl⟩ dX6_isWord_70
      have h := ifn c25 h
      refine G_iload_n hC 3 3 rfl rfl dX6_isWord_28 ?_
      refine G_aload_n hC 1 1 rfl rfl dX6_isWord_29 ?_
      obtain ⟨q30, h30, h⟩ := bnd h
      refine G_cTi (st := [.int x3]) hC _ istr histr (c_J0_length_8abf5 (istr := istr) l histr h30) (cwV 0 hC.hts gX6_isWord_J0_length_8abf5 rfl rfl rfl (by decide +kernel) ⟨Nat.le_of_ble_eq_true rfl, Nat.le_of_ble_eq_true rfl⟩) rfl (Nat.le_of_ble_eq_true rfl) (Nat.zero_le _) (Nat.zero_le _) rfl dX6_isWord_30 (fun r30 enx hw => ?_)
      obtain ⟨rfl, rfl⟩ := hw
      refine G_icmp_ge hC 69 dX6_isWord_33 (by decide) (fun c33 => ?_) (fun c33 => ?_)
      · have h := ifp c33 h
        refine G_iload_n hC 2 2 rfl rfl dX6_isWord_69 ?_
        obtain ⟨g70, h⟩ := asr h
        have h := Option.some.inj h
        subst h
        exact Kr _ _ _ _ (nar_b g70) ⟨rfl, rfl⟩ dX6_isWord_70
      have h := ifn c33 h
      refine G_aload_n hC 0 0 rfl rfl dX6_isWord_36 ?_
      refine G_get hC inX6 83 (by omega) (v := .ref (ad 81)) e_reader rfl 0 (by decide) m9 rfl rfl dX6_isWord_37 ?_
      refine G_aload_n hC 0 0 rfl rfl dX6_isWord_40 ?_
      refine G_get hC inX6 83 (by omega) (v := .int rstart) e_reader rfl 4 (by decide) m91 rfl rfl dX6_isWord_41 ?_
      refine G_iload_n hC 3 3 rfl rfl dX6_isWord_44 ?_
      refine G_iadd hC dX6_isWord_45 ?_
      obtain ⟨q46, h46, h⟩ := bnd h
      refine G_cVi (st := []) hC _ 81 (by omega) (c_X9_byteAt  l (by omega) e_text e_tbytes h46) (cwV 1 hC.hts gX6_isWord_X9_byteAt rfl rfl rfl (by decide +kernel) ⟨Nat.le_of_ble_eq_true rfl, Nat.le_of_ble_eq_true rfl⟩) e_text rfl rfl (Nat.le_of_ble_eq_true rfl) (Nat.zero_le _) (Nat.zero_le _) rfl dX6_isWord_46 (fun r46 enx hw => ?_)
      obtain ⟨rfl, rfl⟩ := hw
      refine G_aload_n hC 1 1 rfl rfl dX6_isWord_49 ?_
      refine G_iload_n hC 3 3 rfl rfl dX6_isWord_50 ?_
      obtain ⟨q51, h51, h⟩ := bnd h
      refine G_cTi (st := [.int q46]) hC _ istr histr (c_J0_charAt_5068e (istr := istr) l histr h51) (cwV 1 hC.hts gX6_isWord_J0_charAt_5068e rfl rfl rfl (by decide +kernel) ⟨Nat.le_of_ble_eq_true rfl, Nat.le_of_ble_eq_true rfl⟩) rfl (Nat.le_of_ble_eq_true rfl) (Nat.zero_le _) (Nat.zero_le _) rfl dX6_isWord_51 (fun r51 enx hw => ?_)
      obtain ⟨rfl, rfl⟩ := hw
      refine G_icmp_ne hC 61 dX6_isWord_54 (by decide) (fun c54 => ?_) (fun c54 => ?_)
      · have h := ifn c54 h
        refine G_iconst hC (v := 0) (by decide) dX6_isWord_61 ?_
        refine G_lv [0, 1, 3] rfl ?_
        exact hB62 _ _ h
      have h := ifp c54 h
      refine G_iconst hC (v := 1) (by decide) dX6_isWord_57 ?_
      refine G_goto hC 62 dX6_isWord_58 (by decide) ?_
      refine G_lv [0, 1, 3] rfl ?_
      exact hB62 _ _ h
  have hB21 : ∀ (s0 : Int32), f_X6_isWord_B21 istr tlen tby rstart rbehind s0 = some q → G p l e ({ frames := 4, cells := 0, slots := 0, locals := 85 } : Room) s m args below meth c D n ad A 4 0 0 Q en 21 [(0, .ref (ad 83)), (1, .ref (sa (10 + istr)))] [.int s0] := by
    intro s0 h
    unfold f_X6_isWord_B21 at h
    refine G_istore_n hC 2 [(2, .int s0), (0, .ref (ad 83)), (1, .ref (sa (10 + istr)))] rfl (by decide) rfl dX6_isWord_21 ?_
    refine G_iconst hC (v := 0) (by decide) dX6_isWord_22 ?_
    refine G_istore_n hC 3 [(3, .int (0 : Int32)), (2, .int s0), (0, .ref (ad 83)), (1, .ref (sa (10 + istr)))] rfl (by decide) rfl dX6_isWord_23 ?_
    refine G_lv [2, 3, 1, 0] rfl ?_
    exact hL24 FU _ _ h
  unfold f_X6_isWord at h
  refine G_aload_n hC 0 0 rfl rfl dX6_isWord_0 ?_
  refine G_get hC inX6 83 (by omega) (v := .int rbehind) e_reader rfl 5 (by decide) m29 rfl rfl dX6_isWord_1 ?_
  refine G_aload_n hC 0 0 rfl rfl dX6_isWord_4 ?_
  refine G_get hC inX6 83 (by omega) (v := .int rstart) e_reader rfl 4 (by decide) m91 rfl rfl dX6_isWord_5 ?_
  refine G_isub hC dX6_isWord_8 ?_
  refine G_aload_n hC 1 1 rfl rfl dX6_isWord_9 ?_
  obtain ⟨q10, h10, h⟩ := bnd h
  refine G_cTi (st := [.int (rbehind - rstart)]) hC _ istr histr (c_J0_length_8abf5 (istr := istr) l histr h10) (cwV 0 hC.hts gX6_isWord_J0_length_8abf5 rfl rfl rfl (by decide +kernel) ⟨Nat.le_of_ble_eq_true rfl, Nat.le_of_ble_eq_true rfl⟩) rfl (Nat.le_of_ble_eq_true rfl) (Nat.zero_le _) (Nat.zero_le _) rfl dX6_isWord_10 (fun r10 enx hw => ?_)
  obtain ⟨rfl, rfl⟩ := hw
  refine G_icmp_ne hC 20 dX6_isWord_13 (by decide) (fun c13 => ?_) (fun c13 => ?_)
  · have h := ifn c13 h
    refine G_iconst hC (v := 0) (by decide) dX6_isWord_20 ?_
    refine G_lv [0, 1] rfl ?_
    exact hB21 _ h
  have h := ifp c13 h
  refine G_iconst hC (v := 1) (by decide) dX6_isWord_16 ?_
  refine G_goto hC 21 dX6_isWord_17 (by decide) ?_
  refine G_lv [0, 1] rfl ?_
  exact hB21 _ h
def f_X6_isLetter (tlen : Int32) (tby : Nat → Int32) (x1 : Int32) : Option (Int32) := Option.bind (f_X9_byteAt tlen tby x1) (fun q5 => Option.bind (f_X10_within q5 (97 : Int32) (122 : Int32)) (fun q12 => if q12 = 0 ∨ q12 = 1 then (some q12) else none))
set_option maxHeartbeats 4000000 in
set_option maxRecDepth 100000 in
theorem c_X6_isLetter {D : va_G} {cs : Nat → ClassId} {sa : Nat → Nat} {n : Nat} {ad : Nat → Nat} {A : Nat → Prop} (l : Launch) {en : Nat → va_E}  {tlen : Int32} {tby : Nat → Int32} {rkind : Int32} {rstart : Int32} {rbehind : Int32} {rname : Int64} {ritems : Int32} {rfault : Int32} {rrefused : Int32} {x1 : Int32}  {q : Int32} (hn : 110 ≤ n) (e_text : en 81 = .inr (6, [.ref (ad 82), .int tlen])) (e_reader : en 83 = .inr (3, [.ref (ad 81), .ref (ad 84), .ref (ad 95), .int rkind, .int rstart, .int rbehind, .long rname, .int ritems, .int rfault, .int rrefused])) (e_tbytes : en 82 = .inl (cs 0, 300, .inl (tby))) (h : f_X6_isLetter tlen tby x1 = some q) : Met l yX6_isLetter wsX6_isLetter { frames := 1, cells := 0, slots := 0, locals := 22 } (va_Pc [.ref (ad 83), .int x1] (Wd D cs sa n ad A en)) (va_Qi (fun r u => q = r ∧ en = u) (Wd D cs sa n ad A) A) 0 0 A := by
  refine G_startI cX6_isLetter 2 [(0, .ref (ad 83)), (1, .int x1)] (by decide) rfl (Nat.le_of_ble_eq_true rfl) rfl ?_
  intro p e s m args below meth c Q hC hnm Kr
  have inX6 : ∀ w ∈ u_ws RX6 TX6 10, w ∈ wsX6_isLetter := by decide +kernel
  have m9 : Cond.fieldLink RX6 9 "TongueTip$Reader" "text" "LTongueTip$Text;" ∈ wsX6_isLetter := by decide +kernel
  have zi_X10_within : Cond.initialized RX10 ∈ wsX6_isLetter := by decide +kernel
  have zs_X10_within : Cond.static yX10_within ∈ wsX6_isLetter := by decide +kernel
  unfold f_X6_isLetter at h
  refine G_aload_n hC 0 0 rfl rfl dX6_isLetter_0 ?_
  refine G_get hC inX6 83 (by omega) (v := .ref (ad 81)) e_reader rfl 0 (by decide) m9 rfl rfl dX6_isLetter_1 ?_
  refine G_iload_n hC 1 1 rfl rfl dX6_isLetter_4 ?_
  obtain ⟨q5, h5, h⟩ := bnd h
  refine G_cVi (st := []) hC _ 81 (by omega) (c_X9_byteAt  l (by omega) e_text e_tbytes h5) (cwV 1 hC.hts gX6_isLetter_X9_byteAt rfl rfl rfl (by decide +kernel) ⟨Nat.le_of_ble_eq_true rfl, Nat.le_of_ble_eq_true rfl⟩) e_text rfl rfl (Nat.le_of_ble_eq_true rfl) (Nat.zero_le _) (Nat.zero_le _) rfl dX6_isLetter_5 (fun r5 enx hw => ?_)
  obtain ⟨rfl, rfl⟩ := hw
  refine G_bipush hC (v := 97) (by decide) dX6_isLetter_8 ?_
  refine G_bipush hC (v := 122) (by decide) dX6_isLetter_10 ?_
  obtain ⟨q12, h12, h⟩ := bnd h
  refine G_cNi (st := []) hC _ (c_X10_within  l  h12) ⟨va_cnB 3 hC.hts gX6_isLetter_X10_within_n122 rfl rfl rfl (hC.2.2.2.1 ("TongueTip$Reader", 122, yX10_within, "TongueTip") (List.mem_of_getElem? (i := 7) rfl)) (hC.hts _ zi_X10_within) (by decide +kernel) ⟨Nat.le_of_ble_eq_true rfl, Nat.le_of_ble_eq_true rfl⟩, hC.hts _ zs_X10_within, trivial⟩ rfl (Nat.le_of_ble_eq_true rfl) (Nat.zero_le _) (Nat.zero_le _) rfl dX6_isLetter_12 (fun r12 enx hw => ?_)
  obtain ⟨rfl, rfl⟩ := hw
  obtain ⟨g15, h⟩ := asr h
  have h := Option.some.inj h
  subst h
  exact Kr _ _ _ _ (nar_b g15) ⟨rfl, rfl⟩ dX6_isLetter_15
def f_X6_isFigure (tlen : Int32) (tby : Nat → Int32) (x1 : Int32) : Option (Int32) := Option.bind (f_X9_byteAt tlen tby x1) (fun q5 => Option.bind (f_X10_within q5 (48 : Int32) (57 : Int32)) (fun q12 => if q12 = 0 ∨ q12 = 1 then (some q12) else none))
set_option maxHeartbeats 4000000 in
set_option maxRecDepth 100000 in
theorem c_X6_isFigure {D : va_G} {cs : Nat → ClassId} {sa : Nat → Nat} {n : Nat} {ad : Nat → Nat} {A : Nat → Prop} (l : Launch) {en : Nat → va_E}  {tlen : Int32} {tby : Nat → Int32} {rkind : Int32} {rstart : Int32} {rbehind : Int32} {rname : Int64} {ritems : Int32} {rfault : Int32} {rrefused : Int32} {x1 : Int32}  {q : Int32} (hn : 110 ≤ n) (e_text : en 81 = .inr (6, [.ref (ad 82), .int tlen])) (e_reader : en 83 = .inr (3, [.ref (ad 81), .ref (ad 84), .ref (ad 95), .int rkind, .int rstart, .int rbehind, .long rname, .int ritems, .int rfault, .int rrefused])) (e_tbytes : en 82 = .inl (cs 0, 300, .inl (tby))) (h : f_X6_isFigure tlen tby x1 = some q) : Met l yX6_isFigure wsX6_isFigure { frames := 1, cells := 0, slots := 0, locals := 22 } (va_Pc [.ref (ad 83), .int x1] (Wd D cs sa n ad A en)) (va_Qi (fun r u => q = r ∧ en = u) (Wd D cs sa n ad A) A) 0 0 A := by
  refine G_startI cX6_isFigure 2 [(0, .ref (ad 83)), (1, .int x1)] (by decide) rfl (Nat.le_of_ble_eq_true rfl) rfl ?_
  intro p e s m args below meth c Q hC hnm Kr
  have inX6 : ∀ w ∈ u_ws RX6 TX6 10, w ∈ wsX6_isFigure := by decide +kernel
  have m9 : Cond.fieldLink RX6 9 "TongueTip$Reader" "text" "LTongueTip$Text;" ∈ wsX6_isFigure := by decide +kernel
  have zi_X10_within : Cond.initialized RX10 ∈ wsX6_isFigure := by decide +kernel
  have zs_X10_within : Cond.static yX10_within ∈ wsX6_isFigure := by decide +kernel
  unfold f_X6_isFigure at h
  refine G_aload_n hC 0 0 rfl rfl dX6_isFigure_0 ?_
  refine G_get hC inX6 83 (by omega) (v := .ref (ad 81)) e_reader rfl 0 (by decide) m9 rfl rfl dX6_isFigure_1 ?_
  refine G_iload_n hC 1 1 rfl rfl dX6_isFigure_4 ?_
  obtain ⟨q5, h5, h⟩ := bnd h
  refine G_cVi (st := []) hC _ 81 (by omega) (c_X9_byteAt  l (by omega) e_text e_tbytes h5) (cwV 1 hC.hts gX6_isFigure_X9_byteAt rfl rfl rfl (by decide +kernel) ⟨Nat.le_of_ble_eq_true rfl, Nat.le_of_ble_eq_true rfl⟩) e_text rfl rfl (Nat.le_of_ble_eq_true rfl) (Nat.zero_le _) (Nat.zero_le _) rfl dX6_isFigure_5 (fun r5 enx hw => ?_)
  obtain ⟨rfl, rfl⟩ := hw
  refine G_bipush hC (v := 48) (by decide) dX6_isFigure_8 ?_
  refine G_bipush hC (v := 57) (by decide) dX6_isFigure_10 ?_
  obtain ⟨q12, h12, h⟩ := bnd h
  refine G_cNi (st := []) hC _ (c_X10_within  l  h12) ⟨va_cnB 3 hC.hts gX6_isFigure_X10_within_n122 rfl rfl rfl (hC.2.2.2.1 ("TongueTip$Reader", 122, yX10_within, "TongueTip") (List.mem_of_getElem? (i := 7) rfl)) (hC.hts _ zi_X10_within) (by decide +kernel) ⟨Nat.le_of_ble_eq_true rfl, Nat.le_of_ble_eq_true rfl⟩, hC.hts _ zs_X10_within, trivial⟩ rfl (Nat.le_of_ble_eq_true rfl) (Nat.zero_le _) (Nat.zero_le _) rfl dX6_isFigure_12 (fun r12 enx hw => ?_)
  obtain ⟨rfl, rfl⟩ := hw
  obtain ⟨g15, h⟩ := asr h
  have h := Option.some.inj h
  subst h
  exact Kr _ _ _ _ (nar_b g15) ⟨rfl, rfl⟩ dX6_isFigure_15
def f_X6_step_B215 (tlen : Int32) (tby : Nat → Int32)  (rkind : Int32) (rstart : Int32) (rbehind : Int32) (s1 : Int32) : Option (Int32 × Int32 × Int32) := some (s1, rstart, rbehind + (1 : Int32))
def f_X6_step_B187 (tlen : Int32) (tby : Nat → Int32)  (rkind : Int32) (rstart : Int32) (rbehind : Int32) (s1 : Int32) : Option (Int32 × Int32 × Int32) := some (s1, rstart, rbehind)
def f_X6_step_B168 (tlen : Int32) (tby : Nat → Int32)  (rkind : Int32) (rstart : Int32) (rbehind : Int32) : Option (Int32 × Int32 × Int32) := if (2 : Int32) < rbehind - rstart then (f_X6_step_B187 tlen tby rkind rstart rbehind (4 : Int32)) else (f_X6_step_B187 tlen tby rkind rstart rbehind (2 : Int32))
def f_X6_step_L136 (tlen : Int32) (tby : Nat → Int32)  : Nat → Int32 → Int32 → Int32 → Int32 → Option (Int32 × Int32 × Int32)
  | 0, _, _, _, _ => none
  | fu + 1, rkind, rstart, rbehind, x1 => if x1 ≤ rbehind then (f_X6_step_B168 tlen tby rkind rstart rbehind) else (Option.bind (f_X6_isFigure tlen tby rbehind) (fun q149 => if q149 = 0 then (f_X6_step_B168 tlen tby rkind rstart rbehind) else (f_X6_step_L136 tlen tby fu rkind rstart (rbehind + (1 : Int32)) x1)))
def f_X6_step_L93 (tlen : Int32) (tby : Nat → Int32)  : Nat → Int32 → Int32 → Int32 → Int32 → Option (Int32 × Int32 × Int32)
  | 0, _, _, _, _ => none
  | fu + 1, rkind, rstart, rbehind, x1 => if x1 ≤ rbehind then (some (rkind, rstart, rbehind)) else (Option.bind (f_X6_isLetter tlen tby rbehind) (fun q106 => if q106 = 0 then (some (rkind, rstart, rbehind)) else (f_X6_step_L93 tlen tby fu rkind rstart (rbehind + (1 : Int32)) x1)))
def f_X6_step_B53 (tlen : Int32) (tby : Nat → Int32)  (rkind : Int32) (rstart : Int32) (rbehind : Int32) (x1 : Int32) : Option (Int32 × Int32 × Int32) := if rstart < x1 then (Option.bind (f_X6_isLetter tlen tby rstart) (fun q82 => if q82 = 0 then (Option.bind (f_X6_isFigure tlen tby rstart) (fun q130 => if q130 = 0 then (Option.bind (f_X9_byteAt tlen tby rstart) (fun q202 => if q202 = (59 : Int32) then (f_X6_step_B215 tlen tby rkind rstart rstart (3 : Int32)) else (f_X6_step_B215 tlen tby rkind rstart rstart (4 : Int32)))) else (f_X6_step_L136 tlen tby FU rkind rstart rstart x1))) else (f_X6_step_L93 tlen tby FU (1 : Int32) rstart rstart x1))) else (some ((0 : Int32), rstart, rstart))
def f_X6_step_L16 (tlen : Int32) (tby : Nat → Int32)  : Nat → Int32 → Int32 → Int32 → Int32 → Option (Int32 × Int32 × Int32)
  | 0, _, _, _, _ => none
  | fu + 1, rkind, rstart, rbehind, x1 => if x1 ≤ rstart then (f_X6_step_B53 tlen tby rkind rstart rbehind x1) else (Option.bind (f_X9_byteAt tlen tby rstart) (fun q32 => if q32 = (32 : Int32) then (f_X6_step_L16 tlen tby fu rkind (rstart + (1 : Int32)) rbehind x1) else (f_X6_step_B53 tlen tby rkind rstart rbehind x1)))
def f_X6_step (tlen : Int32) (tby : Nat → Int32) (rkind : Int32) (rstart : Int32) (rbehind : Int32)  : Option (Int32 × Int32 × Int32) := Option.bind (f_X9_size tlen) (fun q4 => f_X6_step_L16 tlen tby FU rkind rbehind rbehind q4)
set_option maxHeartbeats 4000000 in
set_option maxRecDepth 100000 in
theorem c_X6_step {D : va_G} {cs : Nat → ClassId} {sa : Nat → Nat} {n : Nat} {ad : Nat → Nat} {A : Nat → Prop} (l : Launch) {en : Nat → va_E}  {tlen : Int32} {tby : Nat → Int32} {rkind : Int32} {rstart : Int32} {rbehind : Int32} {rname : Int64} {ritems : Int32} {rfault : Int32} {rrefused : Int32}   {q : Int32 × Int32 × Int32} (hn : 110 ≤ n) (e_text : en 81 = .inr (6, [.ref (ad 82), .int tlen])) (e_reader : en 83 = .inr (3, [.ref (ad 81), .ref (ad 84), .ref (ad 95), .int rkind, .int rstart, .int rbehind, .long rname, .int ritems, .int rfault, .int rrefused])) (e_tbytes : en 82 = .inl (cs 0, 300, .inl (tby))) (h : f_X6_step tlen tby rkind rstart rbehind = some q) : Met l yX6_step wsX6_step { frames := 2, cells := 0, slots := 0, locals := 43 } (va_Pc [.ref (ad 83)] (Wd D cs sa n ad A en)) (va_Qv (fun u => u 83 = .inr (3, [.ref (ad 81), .ref (ad 84), .ref (ad 95), .int q.1, .int q.2.1, .int q.2.2, .long rname, .int ritems, .int rfault, .int rrefused]) ∧ (∀ j, (j < 83 ∨ 84 ≤ j) → u j = en j)) (Wd D cs sa n ad A) A) 0 0 A := by
  refine G_startV cX6_step 2 [(0, .ref (ad 83))] (by decide) rfl (Nat.le_of_ble_eq_true rfl) rfl ?_
  intro p e s m args below meth c Q hC hnm Kr
  have inX6 : ∀ w ∈ u_ws RX6 TX6 10, w ∈ wsX6_step := by decide +kernel
  have m29 : Cond.fieldLink RX6 29 "TongueTip$Reader" "behind" "I" ∈ wsX6_step := by decide +kernel
  have m47 : Cond.fieldLink RX6 47 "TongueTip$Reader" "kind" "I" ∈ wsX6_step := by decide +kernel
  have m9 : Cond.fieldLink RX6 9 "TongueTip$Reader" "text" "LTongueTip$Text;" ∈ wsX6_step := by decide +kernel
  have m91 : Cond.fieldLink RX6 91 "TongueTip$Reader" "start" "I" ∈ wsX6_step := by decide +kernel
  have hB215 : ∀ (en1 : Nat → va_E) (rkind : Int32) (rstart : Int32) (rbehind : Int32) (s1 : Int32), en1 81 = .inr (6, [.ref (ad 82), .int tlen]) → en1 83 = .inr (3, [.ref (ad 81), .ref (ad 84), .ref (ad 95), .int rkind, .int rstart, .int rbehind, .long rname, .int ritems, .int rfault, .int rrefused]) → en1 82 = .inl (cs 0, 300, .inl (tby)) → (∀ j, (j < 83 ∨ 84 ≤ j) → en1 j = en j) → f_X6_step_B215 tlen tby rkind rstart rbehind s1 = some q → G p l e ({ frames := 2, cells := 0, slots := 0, locals := 43 } : Room) s m args below meth c D n ad A 2 0 0 Q en1 215 [(0, .ref (ad 83))] [.int s1, .ref (ad 83)] := by
    intro en1 rkind rstart rbehind s1 e_text e_reader e_tbytes hfr h
    unfold f_X6_step_B215 at h
    refine G_put hC inX6 tyX6 tyX6_ok nmX6 83 (by omega) e_reader rfl 3 (by decide) m47 rfl rfl (ty := .int) rfl rfl rfl (Nat.le_of_ble_eq_true rfl) dX6_step_215 (fun en2 e_reader fr => ?_)
    have e_reader : en2 83 = .inr (3, [.ref (ad 81), .ref (ad 84), .ref (ad 95), .int s1, .int rstart, .int rbehind, .long rname, .int ritems, .int rfault, .int rrefused]) := e_reader
    have e_text := (fr 81 (by omega)).trans e_text
    have e_tbytes := (fr 82 (by omega)).trans e_tbytes
    have hfr : ∀ j, (j < 83 ∨ 84 ≤ j) → en2 j = en j := fun j o0 => (fr j (by omega)).trans (hfr j o0)
    refine G_aload_n hC 0 0 rfl rfl dX6_step_218 ?_
    refine G_dup hC rfl dX6_step_219 ?_
    refine G_get hC inX6 83 (by omega) (v := .int rbehind) e_reader rfl 5 (by decide) m29 rfl rfl dX6_step_220 ?_
    refine G_iconst hC (v := 1) (by decide) dX6_step_223 ?_
    refine G_iadd hC dX6_step_224 ?_
    refine G_put hC inX6 tyX6 tyX6_ok nmX6 83 (by omega) e_reader rfl 5 (by decide) m29 rfl rfl (ty := .int) rfl rfl rfl (Nat.le_of_ble_eq_true rfl) dX6_step_225 (fun en3 e_reader fr => ?_)
    have e_reader : en3 83 = .inr (3, [.ref (ad 81), .ref (ad 84), .ref (ad 95), .int s1, .int rstart, .int (rbehind + (1 : Int32)), .long rname, .int ritems, .int rfault, .int rrefused]) := e_reader
    have e_text := (fr 81 (by omega)).trans e_text
    have e_tbytes := (fr 82 (by omega)).trans e_tbytes
    have hfr : ∀ j, (j < 83 ∨ 84 ≤ j) → en3 j = en j := fun j o0 => (fr j (by omega)).trans (hfr j o0)
    have h := Option.some.inj h
    subst h
    exact Kr _ _ _ ⟨e_reader, hfr⟩ dX6_step_228
  have hB187 : ∀ (en1 : Nat → va_E) (rkind : Int32) (rstart : Int32) (rbehind : Int32) (s1 : Int32), en1 81 = .inr (6, [.ref (ad 82), .int tlen]) → en1 83 = .inr (3, [.ref (ad 81), .ref (ad 84), .ref (ad 95), .int rkind, .int rstart, .int rbehind, .long rname, .int ritems, .int rfault, .int rrefused]) → en1 82 = .inl (cs 0, 300, .inl (tby)) → (∀ j, (j < 83 ∨ 84 ≤ j) → en1 j = en j) → f_X6_step_B187 tlen tby rkind rstart rbehind s1 = some q → G p l e ({ frames := 2, cells := 0, slots := 0, locals := 43 } : Room) s m args below meth c D n ad A 2 0 0 Q en1 187 [] [.int s1, .ref (ad 83)] := by
    intro en1 rkind rstart rbehind s1 e_text e_reader e_tbytes hfr h
    unfold f_X6_step_B187 at h
    refine G_put hC inX6 tyX6 tyX6_ok nmX6 83 (by omega) e_reader rfl 3 (by decide) m47 rfl rfl (ty := .int) rfl rfl rfl (Nat.le_of_ble_eq_true rfl) dX6_step_187 (fun en2 e_reader fr => ?_)
    have e_reader : en2 83 = .inr (3, [.ref (ad 81), .ref (ad 84), .ref (ad 95), .int s1, .int rstart, .int rbehind, .long rname, .int ritems, .int rfault, .int rrefused]) := e_reader
    have e_text := (fr 81 (by omega)).trans e_text
    have e_tbytes := (fr 82 (by omega)).trans e_tbytes
    have hfr : ∀ j, (j < 83 ∨ 84 ≤ j) → en2 j = en j := fun j o0 => (fr j (by omega)).trans (hfr j o0)
    refine G_goto hC 228 dX6_step_190 (by decide) ?_
    have h := Option.some.inj h
    subst h
    exact Kr _ _ _ ⟨e_reader, hfr⟩ dX6_step_228
  have hB168 : ∀ (en1 : Nat → va_E) (rkind : Int32) (rstart : Int32) (rbehind : Int32), en1 81 = .inr (6, [.ref (ad 82), .int tlen]) → en1 83 = .inr (3, [.ref (ad 81), .ref (ad 84), .ref (ad 95), .int rkind, .int rstart, .int rbehind, .long rname, .int ritems, .int rfault, .int rrefused]) → en1 82 = .inl (cs 0, 300, .inl (tby)) → (∀ j, (j < 83 ∨ 84 ≤ j) → en1 j = en j) → f_X6_step_B168 tlen tby rkind rstart rbehind = some q → G p l e ({ frames := 2, cells := 0, slots := 0, locals := 43 } : Room) s m args below meth c D n ad A 2 0 0 Q en1 168 [(0, .ref (ad 83))] [] := by
    intro en1 rkind rstart rbehind e_text e_reader e_tbytes hfr h
    unfold f_X6_step_B168 at h
    refine G_aload_n hC 0 0 rfl rfl dX6_step_168 ?_
    refine G_aload_n hC 0 0 rfl rfl dX6_step_169 ?_
    refine G_get hC inX6 83 (by omega) (v := .int rbehind) e_reader rfl 5 (by decide) m29 rfl rfl dX6_step_170 ?_
    refine G_aload_n hC 0 0 rfl rfl dX6_step_173 ?_
    refine G_get hC inX6 83 (by omega) (v := .int rstart) e_reader rfl 4 (by decide) m91 rfl rfl dX6_step_174 ?_
    refine G_isub hC dX6_step_177 ?_
    refine G_iconst hC (v := 2) (by decide) dX6_step_178 ?_
    refine G_icmp_gt hC 186 dX6_step_179 (by decide) (fun c179 => ?_) (fun c179 => ?_)
    · have h := ifp c179 h
      refine G_iconst hC (v := 4) (by decide) dX6_step_186 ?_
      refine G_lv [] rfl ?_
      exact hB187 _ _ _ _ _ e_text e_reader e_tbytes hfr h
    have h := ifn c179 h
    refine G_iconst hC (v := 2) (by decide) dX6_step_182 ?_
    refine G_goto hC 187 dX6_step_183 (by decide) ?_
    refine G_lv [] rfl ?_
    exact hB187 _ _ _ _ _ e_text e_reader e_tbytes hfr h
  have hL136 : ∀ (fu136 : Nat), ∀ (en1 : Nat → va_E) (rkind : Int32) (rstart : Int32) (rbehind : Int32) (x1 : Int32), en1 81 = .inr (6, [.ref (ad 82), .int tlen]) → en1 83 = .inr (3, [.ref (ad 81), .ref (ad 84), .ref (ad 95), .int rkind, .int rstart, .int rbehind, .long rname, .int ritems, .int rfault, .int rrefused]) → en1 82 = .inl (cs 0, 300, .inl (tby)) → (∀ j, (j < 83 ∨ 84 ≤ j) → en1 j = en j) → f_X6_step_L136 tlen tby fu136 rkind rstart rbehind x1 = some q → G p l e ({ frames := 2, cells := 0, slots := 0, locals := 43 } : Room) s m args below meth c D n ad A 2 0 0 Q en1 136 [(0, .ref (ad 83)), (1, .int x1)] [] := by
    intro fu136
    induction fu136 with
    | zero =>
      intro en1 rkind rstart rbehind x1 e_text e_reader e_tbytes hfr h
      rw [f_X6_step_L136] at h
      cases h
    | succ fu136 ih136 =>
      intro en1 rkind rstart rbehind x1 e_text e_reader e_tbytes hfr h
      rw [f_X6_step_L136] at h
      refine G_aload_n hC 0 0 rfl rfl dX6_step_136 ?_
      refine G_get hC inX6 83 (by omega) (v := .int rbehind) e_reader rfl 5 (by decide) m29 rfl rfl dX6_step_137 ?_
      refine G_iload_n hC 1 1 rfl rfl dX6_step_140 ?_
      refine G_icmp_ge hC 168 dX6_step_141 (by decide) (fun c141 => ?_) (fun c141 => ?_)
      · have h := ifp c141 h
        refine G_lv [0] rfl ?_
        exact hB168 _ _ _ _ e_text e_reader e_tbytes hfr h
      have h := ifn c141 h
      refine G_aload_n hC 0 0 rfl rfl dX6_step_144 ?_
      refine G_aload_n hC 0 0 rfl rfl dX6_step_145 ?_
      refine G_get hC inX6 83 (by omega) (v := .int rbehind) e_reader rfl 5 (by decide) m29 rfl rfl dX6_step_146 ?_
      obtain ⟨q149, h149, h⟩ := bnd h
      refine G_cVi (st := []) hC _ 83 (by omega) (c_X6_isFigure  l (by omega) e_text e_reader e_tbytes h149) (cwV 1 hC.hts gX6_step_X6_isFigure rfl rfl rfl (by decide +kernel) ⟨Nat.le_of_ble_eq_true rfl, Nat.le_of_ble_eq_true rfl⟩) e_reader rfl rfl (Nat.le_of_ble_eq_true rfl) (Nat.zero_le _) (Nat.zero_le _) rfl dX6_step_149 (fun r149 enx hw => ?_)
      obtain ⟨rfl, rfl⟩ := hw
      refine G_if_eq hC 168 dX6_step_152 (by decide) (fun c152 => ?_) (fun c152 => ?_)
      · have h := ifp c152 h
        refine G_lv [0] rfl ?_
        exact hB168 _ _ _ _ e_text e_reader e_tbytes hfr h
      have h := ifn c152 h
      refine G_aload_n hC 0 0 rfl rfl dX6_step_155 ?_
      refine G_dup hC rfl dX6_step_156 ?_
      refine G_get hC inX6 83 (by omega) (v := .int rbehind) e_reader rfl 5 (by decide) m29 rfl rfl dX6_step_157 ?_
      refine G_iconst hC (v := 1) (by decide) dX6_step_160 ?_
      refine G_iadd hC dX6_step_161 ?_
      refine G_put hC inX6 tyX6 tyX6_ok nmX6 83 (by omega) e_reader rfl 5 (by decide) m29 rfl rfl (ty := .int) rfl rfl rfl (Nat.le_of_ble_eq_true rfl) dX6_step_162 (fun en2 e_reader fr => ?_)
      have e_reader : en2 83 = .inr (3, [.ref (ad 81), .ref (ad 84), .ref (ad 95), .int rkind, .int rstart, .int (rbehind + (1 : Int32)), .long rname, .int ritems, .int rfault, .int rrefused]) := e_reader
      have e_text := (fr 81 (by omega)).trans e_text
      have e_tbytes := (fr 82 (by omega)).trans e_tbytes
      have hfr : ∀ j, (j < 83 ∨ 84 ≤ j) → en2 j = en j := fun j o0 => (fr j (by omega)).trans (hfr j o0)
      refine G_goto hC 136 dX6_step_165 (by decide) ?_
      refine G_lv [0, 1] rfl ?_
      exact ih136 _ _ _ _ _ e_text e_reader e_tbytes hfr h
  have hL93 : ∀ (fu93 : Nat), ∀ (en1 : Nat → va_E) (rkind : Int32) (rstart : Int32) (rbehind : Int32) (x1 : Int32), en1 81 = .inr (6, [.ref (ad 82), .int tlen]) → en1 83 = .inr (3, [.ref (ad 81), .ref (ad 84), .ref (ad 95), .int rkind, .int rstart, .int rbehind, .long rname, .int ritems, .int rfault, .int rrefused]) → en1 82 = .inl (cs 0, 300, .inl (tby)) → (∀ j, (j < 83 ∨ 84 ≤ j) → en1 j = en j) → f_X6_step_L93 tlen tby fu93 rkind rstart rbehind x1 = some q → G p l e ({ frames := 2, cells := 0, slots := 0, locals := 43 } : Room) s m args below meth c D n ad A 2 0 0 Q en1 93 [(0, .ref (ad 83)), (1, .int x1)] [] := by
    intro fu93
    induction fu93 with
    | zero =>
      intro en1 rkind rstart rbehind x1 e_text e_reader e_tbytes hfr h
      rw [f_X6_step_L93] at h
      cases h
    | succ fu93 ih93 =>
      intro en1 rkind rstart rbehind x1 e_text e_reader e_tbytes hfr h
      rw [f_X6_step_L93] at h
      refine G_aload_n hC 0 0 rfl rfl dX6_step_93 ?_
      refine G_get hC inX6 83 (by omega) (v := .int rbehind) e_reader rfl 5 (by decide) m29 rfl rfl dX6_step_94 ?_
      refine G_iload_n hC 1 1 rfl rfl dX6_step_97 ?_
      refine G_icmp_ge hC 228 dX6_step_98 (by decide) (fun c98 => ?_) (fun c98 => ?_)
      · have h := ifp c98 h
        have h := Option.some.inj h
        subst h
        exact Kr _ _ _ ⟨e_reader, hfr⟩ dX6_step_228
      have h := ifn c98 h
      refine G_aload_n hC 0 0 rfl rfl dX6_step_101 ?_
      refine G_aload_n hC 0 0 rfl rfl dX6_step_102 ?_
      refine G_get hC inX6 83 (by omega) (v := .int rbehind) e_reader rfl 5 (by decide) m29 rfl rfl dX6_step_103 ?_
      obtain ⟨q106, h106, h⟩ := bnd h
      refine G_cVi (st := []) hC _ 83 (by omega) (c_X6_isLetter  l (by omega) e_text e_reader e_tbytes h106) (cwV 1 hC.hts gX6_step_X6_isLetter rfl rfl rfl (by decide +kernel) ⟨Nat.le_of_ble_eq_true rfl, Nat.le_of_ble_eq_true rfl⟩) e_reader rfl rfl (Nat.le_of_ble_eq_true rfl) (Nat.zero_le _) (Nat.zero_le _) rfl dX6_step_106 (fun r106 enx hw => ?_)
      obtain ⟨rfl, rfl⟩ := hw
      refine G_if_eq hC 228 dX6_step_109 (by decide) (fun c109 => ?_) (fun c109 => ?_)
      · have h := ifp c109 h
        have h := Option.some.inj h
        subst h
        exact Kr _ _ _ ⟨e_reader, hfr⟩ dX6_step_228
      have h := ifn c109 h
      refine G_aload_n hC 0 0 rfl rfl dX6_step_112 ?_
      refine G_dup hC rfl dX6_step_113 ?_
      refine G_get hC inX6 83 (by omega) (v := .int rbehind) e_reader rfl 5 (by decide) m29 rfl rfl dX6_step_114 ?_
      refine G_iconst hC (v := 1) (by decide) dX6_step_117 ?_
      refine G_iadd hC dX6_step_118 ?_
      refine G_put hC inX6 tyX6 tyX6_ok nmX6 83 (by omega) e_reader rfl 5 (by decide) m29 rfl rfl (ty := .int) rfl rfl rfl (Nat.le_of_ble_eq_true rfl) dX6_step_119 (fun en2 e_reader fr => ?_)
      have e_reader : en2 83 = .inr (3, [.ref (ad 81), .ref (ad 84), .ref (ad 95), .int rkind, .int rstart, .int (rbehind + (1 : Int32)), .long rname, .int ritems, .int rfault, .int rrefused]) := e_reader
      have e_text := (fr 81 (by omega)).trans e_text
      have e_tbytes := (fr 82 (by omega)).trans e_tbytes
      have hfr : ∀ j, (j < 83 ∨ 84 ≤ j) → en2 j = en j := fun j o0 => (fr j (by omega)).trans (hfr j o0)
      refine G_goto hC 93 dX6_step_122 (by decide) ?_
      refine G_lv [0, 1] rfl ?_
      exact ih93 _ _ _ _ _ e_text e_reader e_tbytes hfr h
  have hB53 : ∀ (en1 : Nat → va_E) (rkind : Int32) (rstart : Int32) (rbehind : Int32) (x1 : Int32), en1 81 = .inr (6, [.ref (ad 82), .int tlen]) → en1 83 = .inr (3, [.ref (ad 81), .ref (ad 84), .ref (ad 95), .int rkind, .int rstart, .int rbehind, .long rname, .int ritems, .int rfault, .int rrefused]) → en1 82 = .inl (cs 0, 300, .inl (tby)) → (∀ j, (j < 83 ∨ 84 ≤ j) → en1 j = en j) → f_X6_step_B53 tlen tby rkind rstart rbehind x1 = some q → G p l e ({ frames := 2, cells := 0, slots := 0, locals := 43 } : Room) s m args below meth c D n ad A 2 0 0 Q en1 53 [(0, .ref (ad 83)), (1, .int x1)] [] := by
    intro en1 rkind rstart rbehind x1 e_text e_reader e_tbytes hfr h
    unfold f_X6_step_B53 at h
    refine G_aload_n hC 0 0 rfl rfl dX6_step_53 ?_
    refine G_aload_n hC 0 0 rfl rfl dX6_step_54 ?_
    refine G_get hC inX6 83 (by omega) (v := .int rstart) e_reader rfl 4 (by decide) m91 rfl rfl dX6_step_55 ?_
    refine G_put hC inX6 tyX6 tyX6_ok nmX6 83 (by omega) e_reader rfl 5 (by decide) m29 rfl rfl (ty := .int) rfl rfl rfl (Nat.le_of_ble_eq_true rfl) dX6_step_58 (fun en2 e_reader fr => ?_)
    have e_reader : en2 83 = .inr (3, [.ref (ad 81), .ref (ad 84), .ref (ad 95), .int rkind, .int rstart, .int rstart, .long rname, .int ritems, .int rfault, .int rrefused]) := e_reader
    have e_text := (fr 81 (by omega)).trans e_text
    have e_tbytes := (fr 82 (by omega)).trans e_tbytes
    have hfr : ∀ j, (j < 83 ∨ 84 ≤ j) → en2 j = en j := fun j o0 => (fr j (by omega)).trans (hfr j o0)
    refine G_aload_n hC 0 0 rfl rfl dX6_step_61 ?_
    refine G_get hC inX6 83 (by omega) (v := .int rstart) e_reader rfl 4 (by decide) m91 rfl rfl dX6_step_62 ?_
    refine G_iload_n hC 1 1 rfl rfl dX6_step_65 ?_
    refine G_icmp_lt hC 77 dX6_step_66 (by decide) (fun c66 => ?_) (fun c66 => ?_)
    · have h := ifp c66 h
      refine G_aload_n hC 0 0 rfl rfl dX6_step_77 ?_
      refine G_aload_n hC 0 0 rfl rfl dX6_step_78 ?_
      refine G_get hC inX6 83 (by omega) (v := .int rstart) e_reader rfl 4 (by decide) m91 rfl rfl dX6_step_79 ?_
      obtain ⟨q82, h82, h⟩ := bnd h
      refine G_cVi (st := []) hC _ 83 (by omega) (c_X6_isLetter  l (by omega) e_text e_reader e_tbytes h82) (cwV 1 hC.hts gX6_step_X6_isLetter rfl rfl rfl (by decide +kernel) ⟨Nat.le_of_ble_eq_true rfl, Nat.le_of_ble_eq_true rfl⟩) e_reader rfl rfl (Nat.le_of_ble_eq_true rfl) (Nat.zero_le _) (Nat.zero_le _) rfl dX6_step_82 (fun r82 enx hw => ?_)
      obtain ⟨rfl, rfl⟩ := hw
      refine G_if_eq hC 125 dX6_step_85 (by decide) (fun c85 => ?_) (fun c85 => ?_)
      · have h := ifp c85 h
        refine G_aload_n hC 0 0 rfl rfl dX6_step_125 ?_
        refine G_aload_n hC 0 0 rfl rfl dX6_step_126 ?_
        refine G_get hC inX6 83 (by omega) (v := .int rstart) e_reader rfl 4 (by decide) m91 rfl rfl dX6_step_127 ?_
        obtain ⟨q130, h130, h⟩ := bnd h
        refine G_cVi (st := []) hC _ 83 (by omega) (c_X6_isFigure  l (by omega) e_text e_reader e_tbytes h130) (cwV 1 hC.hts gX6_step_X6_isFigure rfl rfl rfl (by decide +kernel) ⟨Nat.le_of_ble_eq_true rfl, Nat.le_of_ble_eq_true rfl⟩) e_reader rfl rfl (Nat.le_of_ble_eq_true rfl) (Nat.zero_le _) (Nat.zero_le _) rfl dX6_step_130 (fun r130 enx hw => ?_)
        obtain ⟨rfl, rfl⟩ := hw
        refine G_if_eq hC 193 dX6_step_133 (by decide) (fun c133 => ?_) (fun c133 => ?_)
        · have h := ifp c133 h
          refine G_aload_n hC 0 0 rfl rfl dX6_step_193 ?_
          refine G_aload_n hC 0 0 rfl rfl dX6_step_194 ?_
          refine G_get hC inX6 83 (by omega) (v := .ref (ad 81)) e_reader rfl 0 (by decide) m9 rfl rfl dX6_step_195 ?_
          refine G_aload_n hC 0 0 rfl rfl dX6_step_198 ?_
          refine G_get hC inX6 83 (by omega) (v := .int rstart) e_reader rfl 4 (by decide) m91 rfl rfl dX6_step_199 ?_
          obtain ⟨q202, h202, h⟩ := bnd h
          refine G_cVi (st := [.ref (ad 83)]) hC _ 81 (by omega) (c_X9_byteAt  l (by omega) e_text e_tbytes h202) (cwV 1 hC.hts gX6_step_X9_byteAt rfl rfl rfl (by decide +kernel) ⟨Nat.le_of_ble_eq_true rfl, Nat.le_of_ble_eq_true rfl⟩) e_text rfl rfl (Nat.le_of_ble_eq_true rfl) (Nat.zero_le _) (Nat.zero_le _) rfl dX6_step_202 (fun r202 enx hw => ?_)
          obtain ⟨rfl, rfl⟩ := hw
          refine G_bipush hC (v := 59) (by decide) dX6_step_205 ?_
          refine G_icmp_ne hC 214 dX6_step_207 (by decide) (fun c207 => ?_) (fun c207 => ?_)
          · have h := ifn c207 h
            refine G_iconst hC (v := 4) (by decide) dX6_step_214 ?_
            refine G_lv [0] rfl ?_
            exact hB215 _ _ _ _ _ e_text e_reader e_tbytes hfr h
          have h := ifp c207 h
          refine G_iconst hC (v := 3) (by decide) dX6_step_210 ?_
          refine G_goto hC 215 dX6_step_211 (by decide) ?_
          refine G_lv [0] rfl ?_
          exact hB215 _ _ _ _ _ e_text e_reader e_tbytes hfr h
        have h := ifn c133 h
        refine G_lv [0, 1] rfl ?_
        exact hL136 FU _ _ _ _ _ e_text e_reader e_tbytes hfr h
      have h := ifn c85 h
      refine G_aload_n hC 0 0 rfl rfl dX6_step_88 ?_
      refine G_iconst hC (v := 1) (by decide) dX6_step_89 ?_
      refine G_put hC inX6 tyX6 tyX6_ok nmX6 83 (by omega) e_reader rfl 3 (by decide) m47 rfl rfl (ty := .int) rfl rfl rfl (Nat.le_of_ble_eq_true rfl) dX6_step_90 (fun en3 e_reader fr => ?_)
      have e_reader : en3 83 = .inr (3, [.ref (ad 81), .ref (ad 84), .ref (ad 95), .int (1 : Int32), .int rstart, .int rstart, .long rname, .int ritems, .int rfault, .int rrefused]) := e_reader
      have e_text := (fr 81 (by omega)).trans e_text
      have e_tbytes := (fr 82 (by omega)).trans e_tbytes
      have hfr : ∀ j, (j < 83 ∨ 84 ≤ j) → en3 j = en j := fun j o0 => (fr j (by omega)).trans (hfr j o0)
      refine G_lv [0, 1] rfl ?_
      exact hL93 FU _ _ _ _ _ e_text e_reader e_tbytes hfr h
    have h := ifn c66 h
    refine G_aload_n hC 0 0 rfl rfl dX6_step_69 ?_
    refine G_iconst hC (v := 0) (by decide) dX6_step_70 ?_
    refine G_put hC inX6 tyX6 tyX6_ok nmX6 83 (by omega) e_reader rfl 3 (by decide) m47 rfl rfl (ty := .int) rfl rfl rfl (Nat.le_of_ble_eq_true rfl) dX6_step_71 (fun en4 e_reader fr => ?_)
    have e_reader : en4 83 = .inr (3, [.ref (ad 81), .ref (ad 84), .ref (ad 95), .int (0 : Int32), .int rstart, .int rstart, .long rname, .int ritems, .int rfault, .int rrefused]) := e_reader
    have e_text := (fr 81 (by omega)).trans e_text
    have e_tbytes := (fr 82 (by omega)).trans e_tbytes
    have hfr : ∀ j, (j < 83 ∨ 84 ≤ j) → en4 j = en j := fun j o0 => (fr j (by omega)).trans (hfr j o0)
    refine G_goto hC 228 dX6_step_74 (by decide) ?_
    have h := Option.some.inj h
    subst h
    exact Kr _ _ _ ⟨e_reader, hfr⟩ dX6_step_228
  have hL16 : ∀ (fu16 : Nat), ∀ (en1 : Nat → va_E) (rkind : Int32) (rstart : Int32) (rbehind : Int32) (x1 : Int32), en1 81 = .inr (6, [.ref (ad 82), .int tlen]) → en1 83 = .inr (3, [.ref (ad 81), .ref (ad 84), .ref (ad 95), .int rkind, .int rstart, .int rbehind, .long rname, .int ritems, .int rfault, .int rrefused]) → en1 82 = .inl (cs 0, 300, .inl (tby)) → (∀ j, (j < 83 ∨ 84 ≤ j) → en1 j = en j) → f_X6_step_L16 tlen tby fu16 rkind rstart rbehind x1 = some q → G p l e ({ frames := 2, cells := 0, slots := 0, locals := 43 } : Room) s m args below meth c D n ad A 2 0 0 Q en1 16 [(0, .ref (ad 83)), (1, .int x1)] [] := by
    intro fu16
    induction fu16 with
    | zero =>
      intro en1 rkind rstart rbehind x1 e_text e_reader e_tbytes hfr h
      rw [f_X6_step_L16] at h
      cases h
    | succ fu16 ih16 =>
      intro en1 rkind rstart rbehind x1 e_text e_reader e_tbytes hfr h
      rw [f_X6_step_L16] at h
      refine G_aload_n hC 0 0 rfl rfl dX6_step_16 ?_
      refine G_get hC inX6 83 (by omega) (v := .int rstart) e_reader rfl 4 (by decide) m91 rfl rfl dX6_step_17 ?_
      refine G_iload_n hC 1 1 rfl rfl dX6_step_20 ?_
      refine G_icmp_ge hC 53 dX6_step_21 (by decide) (fun c21 => ?_) (fun c21 => ?_)
      · have h := ifp c21 h
        refine G_lv [0, 1] rfl ?_
        exact hB53 _ _ _ _ _ e_text e_reader e_tbytes hfr h
      have h := ifn c21 h
      refine G_aload_n hC 0 0 rfl rfl dX6_step_24 ?_
      refine G_get hC inX6 83 (by omega) (v := .ref (ad 81)) e_reader rfl 0 (by decide) m9 rfl rfl dX6_step_25 ?_
      refine G_aload_n hC 0 0 rfl rfl dX6_step_28 ?_
      refine G_get hC inX6 83 (by omega) (v := .int rstart) e_reader rfl 4 (by decide) m91 rfl rfl dX6_step_29 ?_
      obtain ⟨q32, h32, h⟩ := bnd h
      refine G_cVi (st := []) hC _ 81 (by omega) (c_X9_byteAt  l (by omega) e_text e_tbytes h32) (cwV 1 hC.hts gX6_step_X9_byteAt rfl rfl rfl (by decide +kernel) ⟨Nat.le_of_ble_eq_true rfl, Nat.le_of_ble_eq_true rfl⟩) e_text rfl rfl (Nat.le_of_ble_eq_true rfl) (Nat.zero_le _) (Nat.zero_le _) rfl dX6_step_32 (fun r32 enx hw => ?_)
      obtain ⟨rfl, rfl⟩ := hw
      refine G_bipush hC (v := 32) (by decide) dX6_step_35 ?_
      refine G_icmp_ne hC 53 dX6_step_37 (by decide) (fun c37 => ?_) (fun c37 => ?_)
      · have h := ifn c37 h
        refine G_lv [0, 1] rfl ?_
        exact hB53 _ _ _ _ _ e_text e_reader e_tbytes hfr h
      have h := ifp c37 h
      refine G_aload_n hC 0 0 rfl rfl dX6_step_40 ?_
      refine G_dup hC rfl dX6_step_41 ?_
      refine G_get hC inX6 83 (by omega) (v := .int rstart) e_reader rfl 4 (by decide) m91 rfl rfl dX6_step_42 ?_
      refine G_iconst hC (v := 1) (by decide) dX6_step_45 ?_
      refine G_iadd hC dX6_step_46 ?_
      refine G_put hC inX6 tyX6 tyX6_ok nmX6 83 (by omega) e_reader rfl 4 (by decide) m91 rfl rfl (ty := .int) rfl rfl rfl (Nat.le_of_ble_eq_true rfl) dX6_step_47 (fun en2 e_reader fr => ?_)
      have e_reader : en2 83 = .inr (3, [.ref (ad 81), .ref (ad 84), .ref (ad 95), .int rkind, .int (rstart + (1 : Int32)), .int rbehind, .long rname, .int ritems, .int rfault, .int rrefused]) := e_reader
      have e_text := (fr 81 (by omega)).trans e_text
      have e_tbytes := (fr 82 (by omega)).trans e_tbytes
      have hfr : ∀ j, (j < 83 ∨ 84 ≤ j) → en2 j = en j := fun j o0 => (fr j (by omega)).trans (hfr j o0)
      refine G_goto hC 16 dX6_step_50 (by decide) ?_
      refine G_lv [0, 1] rfl ?_
      exact ih16 _ _ _ _ _ e_text e_reader e_tbytes hfr h
  unfold f_X6_step at h
  have hfr : ∀ j, (j < 83 ∨ 84 ≤ j) → en j = en j := fun _ _ => rfl
  refine G_aload_n hC 0 0 rfl rfl dX6_step_0 ?_
  refine G_get hC inX6 83 (by omega) (v := .ref (ad 81)) e_reader rfl 0 (by decide) m9 rfl rfl dX6_step_1 ?_
  obtain ⟨q4, h4, h⟩ := bnd h
  refine G_cVi (st := []) hC _ 81 (by omega) (c_X9_size  l (by omega) e_text h4) (cwV 0 hC.hts gX6_step_X9_size rfl rfl rfl (by decide +kernel) ⟨Nat.le_of_ble_eq_true rfl, Nat.le_of_ble_eq_true rfl⟩) e_text rfl rfl (Nat.le_of_ble_eq_true rfl) (Nat.zero_le _) (Nat.zero_le _) rfl dX6_step_4 (fun r4 enx hw => ?_)
  obtain ⟨rfl, rfl⟩ := hw
  refine G_istore_n hC 1 [(1, .int q4), (0, .ref (ad 83))] rfl (by decide) rfl dX6_step_7 ?_
  refine G_aload_n hC 0 1 rfl rfl dX6_step_8 ?_
  refine G_aload_n hC 0 1 rfl rfl dX6_step_9 ?_
  refine G_get hC inX6 83 (by omega) (v := .int rbehind) e_reader rfl 5 (by decide) m29 rfl rfl dX6_step_10 ?_
  refine G_put hC inX6 tyX6 tyX6_ok nmX6 83 (by omega) e_reader rfl 4 (by decide) m91 rfl rfl (ty := .int) rfl rfl rfl (Nat.le_of_ble_eq_true rfl) dX6_step_13 (fun en2 e_reader fr => ?_)
  have e_reader : en2 83 = .inr (3, [.ref (ad 81), .ref (ad 84), .ref (ad 95), .int rkind, .int rbehind, .int rbehind, .long rname, .int ritems, .int rfault, .int rrefused]) := e_reader
  have e_text := (fr 81 (by omega)).trans e_text
  have e_tbytes := (fr 82 (by omega)).trans e_tbytes
  have hfr : ∀ j, (j < 83 ∨ 84 ≤ j) → en2 j = en j := fun j o0 => (fr j (by omega)).trans (hfr j o0)
  refine G_lv [1, 0] rfl ?_
  exact hL16 FU _ _ _ _ _ e_text e_reader e_tbytes hfr h
def f_X6_expect (tlen : Int32) (tby : Nat → Int32) (rkind : Int32) (rstart : Int32) (rbehind : Int32) (rfault : Int32) (x1 : Int32) : Option (Int32 × Int32 × Int32 × Int32) := if rfault = (-1 : Int32) then (if x1 = 0 then (some (rkind, rstart, rbehind, rstart)) else (Option.bind (f_X6_step tlen tby rkind rstart rbehind) (fun q13 => some (q13.1, q13.2.1, q13.2.2, rfault)))) else (some (rkind, rstart, rbehind, rfault))
set_option maxHeartbeats 4000000 in
set_option maxRecDepth 100000 in
theorem c_X6_expect {D : va_G} {cs : Nat → ClassId} {sa : Nat → Nat} {n : Nat} {ad : Nat → Nat} {A : Nat → Prop} (l : Launch) {en : Nat → va_E}  {tlen : Int32} {tby : Nat → Int32} {rkind : Int32} {rstart : Int32} {rbehind : Int32} {rname : Int64} {ritems : Int32} {rfault : Int32} {rrefused : Int32} {x1 : Int32}  {q : Int32 × Int32 × Int32 × Int32} (hn : 110 ≤ n) (e_text : en 81 = .inr (6, [.ref (ad 82), .int tlen])) (e_reader : en 83 = .inr (3, [.ref (ad 81), .ref (ad 84), .ref (ad 95), .int rkind, .int rstart, .int rbehind, .long rname, .int ritems, .int rfault, .int rrefused])) (e_tbytes : en 82 = .inl (cs 0, 300, .inl (tby))) (h : f_X6_expect tlen tby rkind rstart rbehind rfault x1 = some q) : Met l yX6_expect wsX6_expect { frames := 3, cells := 0, slots := 0, locals := 64 } (va_Pc [.ref (ad 83), .int x1] (Wd D cs sa n ad A en)) (va_Qv (fun u => u 83 = .inr (3, [.ref (ad 81), .ref (ad 84), .ref (ad 95), .int q.1, .int q.2.1, .int q.2.2.1, .long rname, .int ritems, .int q.2.2.2, .int rrefused]) ∧ (∀ j, (j < 83 ∨ 84 ≤ j) → u j = en j)) (Wd D cs sa n ad A) A) 0 0 A := by
  refine G_startV cX6_expect 2 [(0, .ref (ad 83)), (1, .int x1)] (by decide) rfl (Nat.le_of_ble_eq_true rfl) rfl ?_
  intro p e s m args below meth c Q hC hnm Kr
  have inX6 : ∀ w ∈ u_ws RX6 TX6 10, w ∈ wsX6_expect := by decide +kernel
  have m36 : Cond.fieldLink RX6 36 "TongueTip$Reader" "fault" "I" ∈ wsX6_expect := by decide +kernel
  have m91 : Cond.fieldLink RX6 91 "TongueTip$Reader" "start" "I" ∈ wsX6_expect := by decide +kernel
  unfold f_X6_expect at h
  have hfr : ∀ j, (j < 83 ∨ 84 ≤ j) → en j = en j := fun _ _ => rfl
  refine G_aload_n hC 0 0 rfl rfl dX6_expect_0 ?_
  refine G_get hC inX6 83 (by omega) (v := .int rfault) e_reader rfl 8 (by decide) m36 rfl rfl dX6_expect_1 ?_
  refine G_iconst hC (v := (-1)) (by decide) dX6_expect_4 ?_
  refine G_icmp_ne hC 27 dX6_expect_5 (by decide) (fun c5 => ?_) (fun c5 => ?_)
  · have h := ifn c5 h
    have h := Option.some.inj h
    subst h
    exact Kr _ _ _ ⟨e_reader, hfr⟩ dX6_expect_27
  have h := ifp c5 h
  refine G_iload_n hC 1 1 rfl rfl dX6_expect_8 ?_
  refine G_if_eq hC 19 dX6_expect_9 (by decide) (fun c9 => ?_) (fun c9 => ?_)
  · have h := ifp c9 h
    refine G_aload_n hC 0 0 rfl rfl dX6_expect_19 ?_
    refine G_aload_n hC 0 0 rfl rfl dX6_expect_20 ?_
    refine G_get hC inX6 83 (by omega) (v := .int rstart) e_reader rfl 4 (by decide) m91 rfl rfl dX6_expect_21 ?_
    refine G_put hC inX6 tyX6 tyX6_ok nmX6 83 (by omega) e_reader rfl 8 (by decide) m36 rfl rfl (ty := .int) rfl rfl rfl (Nat.le_of_ble_eq_true rfl) dX6_expect_24 (fun en2 e_reader fr => ?_)
    have e_reader : en2 83 = .inr (3, [.ref (ad 81), .ref (ad 84), .ref (ad 95), .int rkind, .int rstart, .int rbehind, .long rname, .int ritems, .int rstart, .int rrefused]) := e_reader
    have e_text := (fr 81 (by omega)).trans e_text
    have e_tbytes := (fr 82 (by omega)).trans e_tbytes
    have hfr : ∀ j, (j < 83 ∨ 84 ≤ j) → en2 j = en j := fun j o0 => (fr j (by omega)).trans (hfr j o0)
    have h := Option.some.inj h
    subst h
    exact Kr _ _ _ ⟨e_reader, hfr⟩ dX6_expect_27
  have h := ifn c9 h
  refine G_aload_n hC 0 0 rfl rfl dX6_expect_12 ?_
  obtain ⟨q13, h13, h⟩ := bnd h
  refine G_cVv (st := []) hC _ 83 (by omega) (c_X6_step  l (by omega) e_text e_reader e_tbytes h13) (cwV 0 hC.hts gX6_expect_X6_step rfl rfl rfl (by decide +kernel) ⟨Nat.le_of_ble_eq_true rfl, Nat.le_of_ble_eq_true rfl⟩) e_reader rfl rfl (Nat.le_of_ble_eq_true rfl) (Nat.zero_le _) (Nat.zero_le _) rfl dX6_expect_13 (fun en3 hw => ?_)
  obtain ⟨e_reader, fr⟩ := hw
  have e_text := (fr 81 (by omega)).trans e_text
  have e_tbytes := (fr 82 (by omega)).trans e_tbytes
  have hfr : ∀ j, (j < 83 ∨ 84 ≤ j) → en3 j = en j := fun j o0 => (fr j (by omega)).trans (hfr j o0)
  refine G_goto hC 27 dX6_expect_16 (by decide) ?_
  have h := Option.some.inj h
  subst h
  exact Kr _ _ _ ⟨e_reader, hfr⟩ dX6_expect_27
def f_X6_whatItem (tlen : Int32) (tby : Nat → Int32) (rstart : Int32) (rbehind : Int32)  : Option (Int32) := Option.bind (f_X6_isWord 0 tlen tby rstart rbehind) (fun q3 => if q3 = 0 then (Option.bind (f_X6_isWord 1 tlen tby rstart rbehind) (fun q14 => if q14 = 0 then (Option.bind (f_X6_isWord 2 tlen tby rstart rbehind) (fun q25 => if q25 = 0 then (Option.bind (f_X6_isWord 3 tlen tby rstart rbehind) (fun q36 => if q36 = 0 then (Option.bind (f_X6_isWord 4 tlen tby rstart rbehind) (fun q47 => if q47 = 0 then (some (-1 : Int32)) else (some (4 : Int32)))) else (some (3 : Int32)))) else (some (2 : Int32)))) else (some (1 : Int32)))) else (some (0 : Int32)))
set_option maxHeartbeats 4000000 in
set_option maxRecDepth 100000 in
theorem c_X6_whatItem {D : va_G} {cs : Nat → ClassId} {sa : Nat → Nat} {n : Nat} {ad : Nat → Nat} {A : Nat → Prop} (l : Launch) {en : Nat → va_E}  {tlen : Int32} {tby : Nat → Int32} {rkind : Int32} {rstart : Int32} {rbehind : Int32} {rname : Int64} {ritems : Int32} {rfault : Int32} {rrefused : Int32}   {q : Int32} (hn : 110 ≤ n) (e_text : en 81 = .inr (6, [.ref (ad 82), .int tlen])) (e_reader : en 83 = .inr (3, [.ref (ad 81), .ref (ad 84), .ref (ad 95), .int rkind, .int rstart, .int rbehind, .long rname, .int ritems, .int rfault, .int rrefused])) (e_tbytes : en 82 = .inl (cs 0, 300, .inl (tby))) (h : f_X6_whatItem tlen tby rstart rbehind = some q) : Met l yX6_whatItem wsX6_whatItem { frames := 5, cells := 0, slots := 0, locals := 108 } (va_Pc [.ref (ad 83)] (Wd D cs sa n ad A en)) (va_Qi (fun r u => q = r ∧ en = u) (Wd D cs sa n ad A) A) 0 0 A := by
  refine G_startI cX6_whatItem 1 [(0, .ref (ad 83))] (by decide) rfl (Nat.le_of_ble_eq_true rfl) rfl ?_
  intro p e s m args below meth c Q hC hnm Kr
  unfold f_X6_whatItem at h
  refine G_aload_n hC 0 0 rfl rfl dX6_whatItem_0 ?_
  refine G_ldcS hC 0 rfl rfl dX6_whatItem_1 ?_
  obtain ⟨q3, h3, h⟩ := bnd h
  refine G_cVi (st := []) hC _ 83 (by omega) (c_X6_isWord (istr := 0) l (by decide) (by omega) e_text e_reader e_tbytes h3) (cwV 1 hC.hts gX6_whatItem_X6_isWord rfl rfl rfl (by decide +kernel) ⟨Nat.le_of_ble_eq_true rfl, Nat.le_of_ble_eq_true rfl⟩) e_reader rfl rfl (Nat.le_of_ble_eq_true rfl) (Nat.zero_le _) (Nat.zero_le _) rfl dX6_whatItem_3 (fun r3 enx hw => ?_)
  obtain ⟨rfl, rfl⟩ := hw
  refine G_if_eq hC 11 dX6_whatItem_6 (by decide) (fun c6 => ?_) (fun c6 => ?_)
  · have h := ifp c6 h
    refine G_aload_n hC 0 0 rfl rfl dX6_whatItem_11 ?_
    refine G_ldcS hC 1 rfl rfl dX6_whatItem_12 ?_
    obtain ⟨q14, h14, h⟩ := bnd h
    refine G_cVi (st := []) hC _ 83 (by omega) (c_X6_isWord (istr := 1) l (by decide) (by omega) e_text e_reader e_tbytes h14) (cwV 1 hC.hts gX6_whatItem_X6_isWord rfl rfl rfl (by decide +kernel) ⟨Nat.le_of_ble_eq_true rfl, Nat.le_of_ble_eq_true rfl⟩) e_reader rfl rfl (Nat.le_of_ble_eq_true rfl) (Nat.zero_le _) (Nat.zero_le _) rfl dX6_whatItem_14 (fun r14 enx hw => ?_)
    obtain ⟨rfl, rfl⟩ := hw
    refine G_if_eq hC 22 dX6_whatItem_17 (by decide) (fun c17 => ?_) (fun c17 => ?_)
    · have h := ifp c17 h
      refine G_aload_n hC 0 0 rfl rfl dX6_whatItem_22 ?_
      refine G_ldcS hC 2 rfl rfl dX6_whatItem_23 ?_
      obtain ⟨q25, h25, h⟩ := bnd h
      refine G_cVi (st := []) hC _ 83 (by omega) (c_X6_isWord (istr := 2) l (by decide) (by omega) e_text e_reader e_tbytes h25) (cwV 1 hC.hts gX6_whatItem_X6_isWord rfl rfl rfl (by decide +kernel) ⟨Nat.le_of_ble_eq_true rfl, Nat.le_of_ble_eq_true rfl⟩) e_reader rfl rfl (Nat.le_of_ble_eq_true rfl) (Nat.zero_le _) (Nat.zero_le _) rfl dX6_whatItem_25 (fun r25 enx hw => ?_)
      obtain ⟨rfl, rfl⟩ := hw
      refine G_if_eq hC 33 dX6_whatItem_28 (by decide) (fun c28 => ?_) (fun c28 => ?_)
      · have h := ifp c28 h
        refine G_aload_n hC 0 0 rfl rfl dX6_whatItem_33 ?_
        refine G_ldcS hC 3 rfl rfl dX6_whatItem_34 ?_
        obtain ⟨q36, h36, h⟩ := bnd h
        refine G_cVi (st := []) hC _ 83 (by omega) (c_X6_isWord (istr := 3) l (by decide) (by omega) e_text e_reader e_tbytes h36) (cwV 1 hC.hts gX6_whatItem_X6_isWord rfl rfl rfl (by decide +kernel) ⟨Nat.le_of_ble_eq_true rfl, Nat.le_of_ble_eq_true rfl⟩) e_reader rfl rfl (Nat.le_of_ble_eq_true rfl) (Nat.zero_le _) (Nat.zero_le _) rfl dX6_whatItem_36 (fun r36 enx hw => ?_)
        obtain ⟨rfl, rfl⟩ := hw
        refine G_if_eq hC 44 dX6_whatItem_39 (by decide) (fun c39 => ?_) (fun c39 => ?_)
        · have h := ifp c39 h
          refine G_aload_n hC 0 0 rfl rfl dX6_whatItem_44 ?_
          refine G_ldcS hC 4 rfl rfl dX6_whatItem_45 ?_
          obtain ⟨q47, h47, h⟩ := bnd h
          refine G_cVi (st := []) hC _ 83 (by omega) (c_X6_isWord (istr := 4) l (by decide) (by omega) e_text e_reader e_tbytes h47) (cwV 1 hC.hts gX6_whatItem_X6_isWord rfl rfl rfl (by decide +kernel) ⟨Nat.le_of_ble_eq_true rfl, Nat.le_of_ble_eq_true rfl⟩) e_reader rfl rfl (Nat.le_of_ble_eq_true rfl) (Nat.zero_le _) (Nat.zero_le _) rfl dX6_whatItem_47 (fun r47 enx hw => ?_)
          obtain ⟨rfl, rfl⟩ := hw
          refine G_if_eq hC 57 dX6_whatItem_50 (by decide) (fun c50 => ?_) (fun c50 => ?_)
          · have h := ifp c50 h
            refine G_iconst hC (v := (-1)) (by decide) dX6_whatItem_57 ?_
            have h := Option.some.inj h
            subst h
            exact Kr _ _ _ _ (nar_i _) ⟨rfl, rfl⟩ dX6_whatItem_58
          have h := ifn c50 h
          refine G_iconst hC (v := 4) (by decide) dX6_whatItem_53 ?_
          refine G_goto hC 58 dX6_whatItem_54 (by decide) ?_
          have h := Option.some.inj h
          subst h
          exact Kr _ _ _ _ (nar_i _) ⟨rfl, rfl⟩ dX6_whatItem_58
        have h := ifn c39 h
        refine G_iconst hC (v := 3) (by decide) dX6_whatItem_42 ?_
        have h := Option.some.inj h
        subst h
        exact Kr _ _ _ _ (nar_i _) ⟨rfl, rfl⟩ dX6_whatItem_43
      have h := ifn c28 h
      refine G_iconst hC (v := 2) (by decide) dX6_whatItem_31 ?_
      have h := Option.some.inj h
      subst h
      exact Kr _ _ _ _ (nar_i _) ⟨rfl, rfl⟩ dX6_whatItem_32
    have h := ifn c17 h
    refine G_iconst hC (v := 1) (by decide) dX6_whatItem_20 ?_
    have h := Option.some.inj h
    subst h
    exact Kr _ _ _ _ (nar_i _) ⟨rfl, rfl⟩ dX6_whatItem_21
  have h := ifn c6 h
  refine G_iconst hC (v := 0) (by decide) dX6_whatItem_9 ?_
  have h := Option.some.inj h
  subst h
  exact Kr _ _ _ _ (nar_i _) ⟨rfl, rfl⟩ dX6_whatItem_10
def f_X6_wordAsName_L7 (tlen : Int32) (tby : Nat → Int32) (rstart : Int32) (rbehind : Int32)  : Nat → Int64 → Int32 → Option (Int64)
  | 0, _, _ => none
  | fu + 1, x1, x3 => if rbehind ≤ x3 then (some x1) else (if (7 : Int32) < rbehind - rstart then (some x1) else (Option.bind (f_X9_byteAt tlen tby x3) (fun q39 => f_X6_wordAsName_L7 tlen tby rstart rbehind fu (((((32 : Int64) * x1) + q39.toInt64) - (97 : Int64)) + (1 : Int64)) (x3 + (1 : Int32)))))
def f_X6_wordAsName (tlen : Int32) (tby : Nat → Int32) (rstart : Int32) (rbehind : Int32)  : Option (Int64) := f_X6_wordAsName_L7 tlen tby rstart rbehind FU (0 : Int64) rstart
set_option maxHeartbeats 4000000 in
set_option maxRecDepth 100000 in
theorem c_X6_wordAsName {D : va_G} {cs : Nat → ClassId} {sa : Nat → Nat} {n : Nat} {ad : Nat → Nat} {A : Nat → Prop} (l : Launch) {en : Nat → va_E}  {tlen : Int32} {tby : Nat → Int32} {rkind : Int32} {rstart : Int32} {rbehind : Int32} {rname : Int64} {ritems : Int32} {rfault : Int32} {rrefused : Int32}   {q : Int64} (hn : 110 ≤ n) (e_text : en 81 = .inr (6, [.ref (ad 82), .int tlen])) (e_reader : en 83 = .inr (3, [.ref (ad 81), .ref (ad 84), .ref (ad 95), .int rkind, .int rstart, .int rbehind, .long rname, .int ritems, .int rfault, .int rrefused])) (e_tbytes : en 82 = .inl (cs 0, 300, .inl (tby))) (h : f_X6_wordAsName tlen tby rstart rbehind = some q) : Met l yX6_wordAsName wsX6_wordAsName { frames := 1, cells := 0, slots := 0, locals := 21 } (va_Pc [.ref (ad 83)] (Wd D cs sa n ad A en)) (va_Ql (fun r u => q = r ∧ en = u) (Wd D cs sa n ad A) A) 0 0 A := by
  refine G_startL cX6_wordAsName 4 [(0, .ref (ad 83))] (by decide) rfl (Nat.le_of_ble_eq_true rfl) rfl ?_
  intro p e s m args below meth c Q hC hnm Kr
  have inX6 : ∀ w ∈ u_ws RX6 TX6 10, w ∈ wsX6_wordAsName := by decide +kernel
  have k151 : Cond.constantLong RX6 151 (32) ∈ wsX6_wordAsName := by decide +kernel
  have k153 : Cond.constantLong RX6 153 (97) ∈ wsX6_wordAsName := by decide +kernel
  have m29 : Cond.fieldLink RX6 29 "TongueTip$Reader" "behind" "I" ∈ wsX6_wordAsName := by decide +kernel
  have m9 : Cond.fieldLink RX6 9 "TongueTip$Reader" "text" "LTongueTip$Text;" ∈ wsX6_wordAsName := by decide +kernel
  have m91 : Cond.fieldLink RX6 91 "TongueTip$Reader" "start" "I" ∈ wsX6_wordAsName := by decide +kernel
  have hL7 : ∀ (fu7 : Nat), ∀ (x1 : Int64) (x3 : Int32), f_X6_wordAsName_L7 tlen tby rstart rbehind fu7 x1 x3 = some q → G p l e ({ frames := 1, cells := 0, slots := 0, locals := 21 } : Room) s m args below meth c D n ad A 4 0 0 Q en 7 [(0, .ref (ad 83)), (1, .long x1), (3, .int x3)] [] := by
    intro fu7
    induction fu7 with
    | zero =>
      intro x1 x3 h
      rw [f_X6_wordAsName_L7] at h
      cases h
    | succ fu7 ih7 =>
      intro x1 x3 h
      rw [f_X6_wordAsName_L7] at h
      refine G_iload_n hC 3 2 rfl rfl dX6_wordAsName_7 ?_
      refine G_aload_n hC 0 0 rfl rfl dX6_wordAsName_8 ?_
      refine G_get hC inX6 83 (by omega) (v := .int rbehind) e_reader rfl 5 (by decide) m29 rfl rfl dX6_wordAsName_9 ?_
      refine G_icmp_ge hC 57 dX6_wordAsName_12 (by decide) (fun c12 => ?_) (fun c12 => ?_)
      · have h := ifp c12 h
        refine G_lload_n hC 1 1 rfl rfl dX6_wordAsName_57 ?_
        have h := Option.some.inj h
        subst h
        exact Kr _ _ _ _ ⟨rfl, rfl⟩ dX6_wordAsName_58
      have h := ifn c12 h
      refine G_aload_n hC 0 0 rfl rfl dX6_wordAsName_15 ?_
      refine G_get hC inX6 83 (by omega) (v := .int rbehind) e_reader rfl 5 (by decide) m29 rfl rfl dX6_wordAsName_16 ?_
      refine G_aload_n hC 0 0 rfl rfl dX6_wordAsName_19 ?_
      refine G_get hC inX6 83 (by omega) (v := .int rstart) e_reader rfl 4 (by decide) m91 rfl rfl dX6_wordAsName_20 ?_
      refine G_isub hC dX6_wordAsName_23 ?_
      refine G_bipush hC (v := 7) (by decide) dX6_wordAsName_24 ?_
      refine G_icmp_gt hC 57 dX6_wordAsName_26 (by decide) (fun c26 => ?_) (fun c26 => ?_)
      · have h := ifp c26 h
        refine G_lload_n hC 1 1 rfl rfl dX6_wordAsName_57 ?_
        have h := Option.some.inj h
        subst h
        exact Kr _ _ _ _ ⟨rfl, rfl⟩ dX6_wordAsName_58
      have h := ifn c26 h
      refine G_ldc2 hC (v := (32)) k151 dX6_wordAsName_29 ?_
      refine G_lload_n hC 1 1 rfl rfl dX6_wordAsName_32 ?_
      refine G_lmul hC dX6_wordAsName_33 ?_
      refine G_aload_n hC 0 0 rfl rfl dX6_wordAsName_34 ?_
      refine G_get hC inX6 83 (by omega) (v := .ref (ad 81)) e_reader rfl 0 (by decide) m9 rfl rfl dX6_wordAsName_35 ?_
      refine G_iload_n hC 3 2 rfl rfl dX6_wordAsName_38 ?_
      obtain ⟨q39, h39, h⟩ := bnd h
      refine G_cVi (st := [.long ((32 : Int64) * x1)]) hC _ 81 (by omega) (c_X9_byteAt  l (by omega) e_text e_tbytes h39) (cwV 1 hC.hts gX6_wordAsName_X9_byteAt rfl rfl rfl (by decide +kernel) ⟨Nat.le_of_ble_eq_true rfl, Nat.le_of_ble_eq_true rfl⟩) e_text rfl rfl (Nat.le_of_ble_eq_true rfl) (Nat.zero_le _) (Nat.zero_le _) rfl dX6_wordAsName_39 (fun r39 enx hw => ?_)
      obtain ⟨rfl, rfl⟩ := hw
      refine G_i2l hC dX6_wordAsName_42 ?_
      refine G_ladd hC dX6_wordAsName_43 ?_
      refine G_ldc2 hC (v := (97)) k153 dX6_wordAsName_44 ?_
      refine G_lsub hC dX6_wordAsName_47 ?_
      refine G_lconst hC (v := 1) (by decide) dX6_wordAsName_48 ?_
      refine G_ladd hC dX6_wordAsName_49 ?_
      refine G_lstore_n hC 1 [(1, .long (((((32 : Int64) * x1) + q39.toInt64) - (97 : Int64)) + (1 : Int64))), (0, .ref (ad 83)), (3, .int x3)] rfl (by decide) rfl dX6_wordAsName_50 ?_
      refine G_iinc hC 3 2 [(3, .int (x3 + (1 : Int32))), (1, .long (((((32 : Int64) * x1) + q39.toInt64) - (97 : Int64)) + (1 : Int64))), (0, .ref (ad 83))] rfl rfl (by decide) rfl dX6_wordAsName_51 ?_
      refine G_goto hC 7 dX6_wordAsName_54 (by decide) ?_
      refine G_lv [2, 1, 0] rfl ?_
      exact ih7 _ _ h
  unfold f_X6_wordAsName at h
  refine G_lconst hC (v := 0) (by decide) dX6_wordAsName_0 ?_
  refine G_lstore_n hC 1 [(1, .long (0 : Int64)), (0, .ref (ad 83))] rfl (by decide) rfl dX6_wordAsName_1 ?_
  refine G_aload_n hC 0 1 rfl rfl dX6_wordAsName_2 ?_
  refine G_get hC inX6 83 (by omega) (v := .int rstart) e_reader rfl 4 (by decide) m91 rfl rfl dX6_wordAsName_3 ?_
  refine G_istore_n hC 3 [(3, .int rstart), (1, .long (0 : Int64)), (0, .ref (ad 83))] rfl (by decide) rfl dX6_wordAsName_6 ?_
  refine G_lv [2, 1, 0] rfl ?_
  exact hL7 FU _ _ h
def f_X6_tokenAsNumber_L7 (tlen : Int32) (tby : Nat → Int32) (rkind : Int32) (rstart : Int32) (rbehind : Int32)  : Nat → Int32 → Int32 → Option (Int32)
  | 0, _, _ => none
  | fu + 1, x1, x2 => if rbehind ≤ x2 then (some x1) else (if rkind = (2 : Int32) then (Option.bind (f_X9_byteAt tlen tby x2) (fun q32 => f_X6_tokenAsNumber_L7 tlen tby rkind rstart rbehind fu ((((10 : Int32) * x1) + q32) - (48 : Int32)) (x2 + (1 : Int32)))) else (some x1))
def f_X6_tokenAsNumber (tlen : Int32) (tby : Nat → Int32) (rkind : Int32) (rstart : Int32) (rbehind : Int32)  : Option (Int32) := f_X6_tokenAsNumber_L7 tlen tby rkind rstart rbehind FU (0 : Int32) rstart
set_option maxHeartbeats 4000000 in
set_option maxRecDepth 100000 in
theorem c_X6_tokenAsNumber {D : va_G} {cs : Nat → ClassId} {sa : Nat → Nat} {n : Nat} {ad : Nat → Nat} {A : Nat → Prop} (l : Launch) {en : Nat → va_E}  {tlen : Int32} {tby : Nat → Int32} {rkind : Int32} {rstart : Int32} {rbehind : Int32} {rname : Int64} {ritems : Int32} {rfault : Int32} {rrefused : Int32}   {q : Int32} (hn : 110 ≤ n) (e_text : en 81 = .inr (6, [.ref (ad 82), .int tlen])) (e_reader : en 83 = .inr (3, [.ref (ad 81), .ref (ad 84), .ref (ad 95), .int rkind, .int rstart, .int rbehind, .long rname, .int ritems, .int rfault, .int rrefused])) (e_tbytes : en 82 = .inl (cs 0, 300, .inl (tby))) (h : f_X6_tokenAsNumber tlen tby rkind rstart rbehind = some q) : Met l yX6_tokenAsNumber wsX6_tokenAsNumber { frames := 1, cells := 0, slots := 0, locals := 21 } (va_Pc [.ref (ad 83)] (Wd D cs sa n ad A en)) (va_Qi (fun r u => q = r ∧ en = u) (Wd D cs sa n ad A) A) 0 0 A := by
  refine G_startI cX6_tokenAsNumber 3 [(0, .ref (ad 83))] (by decide) rfl (Nat.le_of_ble_eq_true rfl) rfl ?_
  intro p e s m args below meth c Q hC hnm Kr
  have inX6 : ∀ w ∈ u_ws RX6 TX6 10, w ∈ wsX6_tokenAsNumber := by decide +kernel
  have m29 : Cond.fieldLink RX6 29 "TongueTip$Reader" "behind" "I" ∈ wsX6_tokenAsNumber := by decide +kernel
  have m47 : Cond.fieldLink RX6 47 "TongueTip$Reader" "kind" "I" ∈ wsX6_tokenAsNumber := by decide +kernel
  have m9 : Cond.fieldLink RX6 9 "TongueTip$Reader" "text" "LTongueTip$Text;" ∈ wsX6_tokenAsNumber := by decide +kernel
  have m91 : Cond.fieldLink RX6 91 "TongueTip$Reader" "start" "I" ∈ wsX6_tokenAsNumber := by decide +kernel
  have hL7 : ∀ (fu7 : Nat), ∀ (x1 : Int32) (x2 : Int32), f_X6_tokenAsNumber_L7 tlen tby rkind rstart rbehind fu7 x1 x2 = some q → G p l e ({ frames := 1, cells := 0, slots := 0, locals := 21 } : Room) s m args below meth c D n ad A 3 0 0 Q en 7 [(0, .ref (ad 83)), (1, .int x1), (2, .int x2)] [] := by
    intro fu7
    induction fu7 with
    | zero =>
      intro x1 x2 h
      rw [f_X6_tokenAsNumber_L7] at h
      cases h
    | succ fu7 ih7 =>
      intro x1 x2 h
      rw [f_X6_tokenAsNumber_L7] at h
      refine G_iload_n hC 2 2 rfl rfl dX6_tokenAsNumber_7 ?_
      refine G_aload_n hC 0 0 rfl rfl dX6_tokenAsNumber_8 ?_
      refine G_get hC inX6 83 (by omega) (v := .int rbehind) e_reader rfl 5 (by decide) m29 rfl rfl dX6_tokenAsNumber_9 ?_
      refine G_icmp_ge hC 46 dX6_tokenAsNumber_12 (by decide) (fun c12 => ?_) (fun c12 => ?_)
      · have h := ifp c12 h
        refine G_iload_n hC 1 1 rfl rfl dX6_tokenAsNumber_46 ?_
        have h := Option.some.inj h
        subst h
        exact Kr _ _ _ _ (nar_i _) ⟨rfl, rfl⟩ dX6_tokenAsNumber_47
      have h := ifn c12 h
      refine G_aload_n hC 0 0 rfl rfl dX6_tokenAsNumber_15 ?_
      refine G_get hC inX6 83 (by omega) (v := .int rkind) e_reader rfl 3 (by decide) m47 rfl rfl dX6_tokenAsNumber_16 ?_
      refine G_iconst hC (v := 2) (by decide) dX6_tokenAsNumber_19 ?_
      refine G_icmp_ne hC 46 dX6_tokenAsNumber_20 (by decide) (fun c20 => ?_) (fun c20 => ?_)
      · have h := ifn c20 h
        refine G_iload_n hC 1 1 rfl rfl dX6_tokenAsNumber_46 ?_
        have h := Option.some.inj h
        subst h
        exact Kr _ _ _ _ (nar_i _) ⟨rfl, rfl⟩ dX6_tokenAsNumber_47
      have h := ifp c20 h
      refine G_bipush hC (v := 10) (by decide) dX6_tokenAsNumber_23 ?_
      refine G_iload_n hC 1 1 rfl rfl dX6_tokenAsNumber_25 ?_
      refine G_imul hC dX6_tokenAsNumber_26 ?_
      refine G_aload_n hC 0 0 rfl rfl dX6_tokenAsNumber_27 ?_
      refine G_get hC inX6 83 (by omega) (v := .ref (ad 81)) e_reader rfl 0 (by decide) m9 rfl rfl dX6_tokenAsNumber_28 ?_
      refine G_iload_n hC 2 2 rfl rfl dX6_tokenAsNumber_31 ?_
      obtain ⟨q32, h32, h⟩ := bnd h
      refine G_cVi (st := [.int ((10 : Int32) * x1)]) hC _ 81 (by omega) (c_X9_byteAt  l (by omega) e_text e_tbytes h32) (cwV 1 hC.hts gX6_tokenAsNumber_X9_byteAt rfl rfl rfl (by decide +kernel) ⟨Nat.le_of_ble_eq_true rfl, Nat.le_of_ble_eq_true rfl⟩) e_text rfl rfl (Nat.le_of_ble_eq_true rfl) (Nat.zero_le _) (Nat.zero_le _) rfl dX6_tokenAsNumber_32 (fun r32 enx hw => ?_)
      obtain ⟨rfl, rfl⟩ := hw
      refine G_iadd hC dX6_tokenAsNumber_35 ?_
      refine G_bipush hC (v := 48) (by decide) dX6_tokenAsNumber_36 ?_
      refine G_isub hC dX6_tokenAsNumber_38 ?_
      refine G_istore_n hC 1 [(1, .int ((((10 : Int32) * x1) + q32) - (48 : Int32))), (0, .ref (ad 83)), (2, .int x2)] rfl (by decide) rfl dX6_tokenAsNumber_39 ?_
      refine G_iinc hC 2 2 [(2, .int (x2 + (1 : Int32))), (1, .int ((((10 : Int32) * x1) + q32) - (48 : Int32))), (0, .ref (ad 83))] rfl rfl (by decide) rfl dX6_tokenAsNumber_40 ?_
      refine G_goto hC 7 dX6_tokenAsNumber_43 (by decide) ?_
      refine G_lv [2, 1, 0] rfl ?_
      exact ih7 _ _ h
  unfold f_X6_tokenAsNumber at h
  refine G_iconst hC (v := 0) (by decide) dX6_tokenAsNumber_0 ?_
  refine G_istore_n hC 1 [(1, .int (0 : Int32)), (0, .ref (ad 83))] rfl (by decide) rfl dX6_tokenAsNumber_1 ?_
  refine G_aload_n hC 0 1 rfl rfl dX6_tokenAsNumber_2 ?_
  refine G_get hC inX6 83 (by omega) (v := .int rstart) e_reader rfl 4 (by decide) m91 rfl rfl dX6_tokenAsNumber_3 ?_
  refine G_istore_n hC 2 [(2, .int rstart), (1, .int (0 : Int32)), (0, .ref (ad 83))] rfl (by decide) rfl dX6_tokenAsNumber_6 ?_
  refine G_lv [2, 1, 0] rfl ?_
  exact hL7 FU _ _ h
def f_X6_tellItem (rname : Int64) (draft : HallV) (rnums : Nat → Int32) (x1 : Int32) : Option (Int32 × HallV) := Option.bind (f_X10_at rnums 5 (0 : Int32)) (fun q5 => Option.bind (f_X10_at rnums 5 (1 : Int32)) (fun q14 => Option.bind (f_X10_at rnums 5 (2 : Int32)) (fun q23 => if x1 = (0 : Int32) then (Option.bind (f_X10_at rnums 5 (3 : Int32)) (fun q77 => Option.bind (f_X10_at rnums 5 (4 : Int32)) (fun q85 => Option.bind (f_X1_tellOne draft rname q5 q14 q23 q77 q85) (fun q88 => some (q88.1, q88.2))))) else if x1 = (1 : Int32) then (Option.bind (f_X1_tellTry draft q5 q14 q23) (fun q100 => some (q100.1, q100.2))) else if x1 = (2 : Int32) then (Option.bind (f_X1_tellQuestion draft q5 q14) (fun q110 => some (q110.1, q110.2))) else if x1 = (3 : Int32) then (Option.bind (f_X1_tellSetting draft (0 : Int32) q5) (fun q120 => some (q120.1, q120.2))) else (Option.bind (f_X1_tellSetting draft (1 : Int32) q5) (fun q130 => some (q130.1, q130.2))))))
set_option maxHeartbeats 4000000 in
set_option maxRecDepth 100000 in
theorem c_X6_tellItem {D : va_G} {cs : Nat → ClassId} {sa : Nat → Nat} {n : Nat} {ad : Nat → Nat} {A : Nat → Prop} (l : Launch) {en : Nat → va_E}  {rkind : Int32} {rstart : Int32} {rbehind : Int32} {rname : Int64} {ritems : Int32} {rfault : Int32} {rrefused : Int32} {draft : HallV} {rnums : Nat → Int32} {x1 : Int32}  {q : Int32 × HallV} (hn : 110 ≤ n) (e_reader : en 83 = .inr (3, [.ref (ad 81), .ref (ad 84), .ref (ad 95), .int rkind, .int rstart, .int rbehind, .long rname, .int ritems, .int rfault, .int rrefused])) (e_rnumarr : en 95 = .inl (cs 1, 5, .inl (rnums))) (H_draft : Hall cs ad en 84 draft) (h : f_X6_tellItem rname draft rnums x1 = some q) : Met l yX6_tellItem wsX6_tellItem { frames := 3, cells := 0, slots := 0, locals := 77 } (va_Pc [.ref (ad 83), .int x1] (Wd D cs sa n ad A en)) (va_Qi (fun r u => q.1 = r ∧ Hall cs ad u 84 q.2 ∧ (∀ j, (j < 84 ∨ 95 ≤ j) → u j = en j)) (Wd D cs sa n ad A) A) 0 0 A := by
  refine G_startI cX6_tellItem 5 [(0, .ref (ad 83)), (1, .int x1)] (by decide) rfl (Nat.le_of_ble_eq_true rfl) rfl ?_
  intro p e s m args below meth c Q hC hnm Kr
  have inX6 : ∀ w ∈ u_ws RX6 TX6 10, w ∈ wsX6_tellItem := by decide +kernel
  have m18 : Cond.fieldLink RX6 18 "TongueTip$Reader" "draft" "LTongueTip$Hall;" ∈ wsX6_tellItem := by decide +kernel
  have m22 : Cond.fieldLink RX6 22 "TongueTip$Reader" "numbers" "[I" ∈ wsX6_tellItem := by decide +kernel
  have m69 : Cond.fieldLink RX6 69 "TongueTip$Reader" "name" "J" ∈ wsX6_tellItem := by decide +kernel
  have zi_X10_at : Cond.initialized RX10 ∈ wsX6_tellItem := by decide +kernel
  have zs_X10_at : Cond.static yX10_at ∈ wsX6_tellItem := by decide +kernel
  unfold f_X6_tellItem at h
  have hfr : ∀ j, (j < 84 ∨ 95 ≤ j) → en j = en j := fun _ _ => rfl
  refine G_aload_n hC 0 0 rfl rfl dX6_tellItem_0 ?_
  refine G_get hC inX6 83 (by omega) (v := .ref (ad 95)) e_reader rfl 2 (by decide) m22 rfl rfl dX6_tellItem_1 ?_
  refine G_iconst hC (v := 0) (by decide) dX6_tellItem_4 ?_
  obtain ⟨q5, h5, h⟩ := bnd h
  refine G_cNi (st := []) hC _ (c_X10_at (pp := 95) l (by omega) e_rnumarr h5) ⟨va_cnB 2 hC.hts gX6_tellItem_X10_at_n76 rfl rfl rfl (hC.2.2.2.1 ("TongueTip$Reader", 76, yX10_at, "TongueTip") (List.mem_of_getElem? (i := 8) rfl)) (hC.hts _ zi_X10_at) (by decide +kernel) ⟨Nat.le_of_ble_eq_true rfl, Nat.le_of_ble_eq_true rfl⟩, hC.hts _ zs_X10_at, trivial⟩ rfl (Nat.le_of_ble_eq_true rfl) (Nat.zero_le _) (Nat.zero_le _) rfl dX6_tellItem_5 (fun r5 enx hw => ?_)
  obtain ⟨rfl, rfl⟩ := hw
  refine G_istore_n hC 2 [(2, .int q5), (0, .ref (ad 83)), (1, .int x1)] rfl (by decide) rfl dX6_tellItem_8 ?_
  refine G_aload_n hC 0 1 rfl rfl dX6_tellItem_9 ?_
  refine G_get hC inX6 83 (by omega) (v := .ref (ad 95)) e_reader rfl 2 (by decide) m22 rfl rfl dX6_tellItem_10 ?_
  refine G_iconst hC (v := 1) (by decide) dX6_tellItem_13 ?_
  obtain ⟨q14, h14, h⟩ := bnd h
  refine G_cNi (st := []) hC _ (c_X10_at (pp := 95) l (by omega) e_rnumarr h14) ⟨va_cnB 2 hC.hts gX6_tellItem_X10_at_n76 rfl rfl rfl (hC.2.2.2.1 ("TongueTip$Reader", 76, yX10_at, "TongueTip") (List.mem_of_getElem? (i := 8) rfl)) (hC.hts _ zi_X10_at) (by decide +kernel) ⟨Nat.le_of_ble_eq_true rfl, Nat.le_of_ble_eq_true rfl⟩, hC.hts _ zs_X10_at, trivial⟩ rfl (Nat.le_of_ble_eq_true rfl) (Nat.zero_le _) (Nat.zero_le _) rfl dX6_tellItem_14 (fun r14 enx hw => ?_)
  obtain ⟨rfl, rfl⟩ := hw
  refine G_istore_n hC 3 [(3, .int q14), (2, .int q5), (0, .ref (ad 83)), (1, .int x1)] rfl (by decide) rfl dX6_tellItem_17 ?_
  refine G_aload_n hC 0 2 rfl rfl dX6_tellItem_18 ?_
  refine G_get hC inX6 83 (by omega) (v := .ref (ad 95)) e_reader rfl 2 (by decide) m22 rfl rfl dX6_tellItem_19 ?_
  refine G_iconst hC (v := 2) (by decide) dX6_tellItem_22 ?_
  obtain ⟨q23, h23, h⟩ := bnd h
  refine G_cNi (st := []) hC _ (c_X10_at (pp := 95) l (by omega) e_rnumarr h23) ⟨va_cnB 2 hC.hts gX6_tellItem_X10_at_n76 rfl rfl rfl (hC.2.2.2.1 ("TongueTip$Reader", 76, yX10_at, "TongueTip") (List.mem_of_getElem? (i := 8) rfl)) (hC.hts _ zi_X10_at) (by decide +kernel) ⟨Nat.le_of_ble_eq_true rfl, Nat.le_of_ble_eq_true rfl⟩, hC.hts _ zs_X10_at, trivial⟩ rfl (Nat.le_of_ble_eq_true rfl) (Nat.zero_le _) (Nat.zero_le _) rfl dX6_tellItem_23 (fun r23 enx hw => ?_)
  obtain ⟨rfl, rfl⟩ := hw
  refine G_istore hC 4 [(4, .int q23), (3, .int q14), (2, .int q5), (0, .ref (ad 83)), (1, .int x1)] (by decide) rfl dX6_tellItem_26 ?_
  refine G_iload_n hC 1 4 rfl rfl dX6_tellItem_28 ?_
  by_cases c29_0 : x1 = (0 : Int32)
  · have h := ifp c29_0 h
    refine G_tabIn hC 60 dX6_tellItem_29 (by rw [c29_0]; decide) (by rw [c29_0]; decide) (off := 31) (by rw [c29_0]; decide) (by decide) ?_
    refine G_aload_n hC 0 3 rfl rfl dX6_tellItem_60 ?_
    refine G_get hC inX6 83 (by omega) (v := .ref (ad 84)) e_reader rfl 1 (by decide) m18 rfl rfl dX6_tellItem_61 ?_
    refine G_aload_n hC 0 3 rfl rfl dX6_tellItem_64 ?_
    refine G_get hC inX6 83 (by omega) (v := .long rname) e_reader rfl 6 (by decide) m69 rfl rfl dX6_tellItem_65 ?_
    refine G_iload_n hC 2 2 rfl rfl dX6_tellItem_68 ?_
    refine G_iload_n hC 3 1 rfl rfl dX6_tellItem_69 ?_
    refine G_iload hC 4 0 rfl dX6_tellItem_70 ?_
    refine G_aload_n hC 0 3 rfl rfl dX6_tellItem_72 ?_
    refine G_get hC inX6 83 (by omega) (v := .ref (ad 95)) e_reader rfl 2 (by decide) m22 rfl rfl dX6_tellItem_73 ?_
    refine G_iconst hC (v := 3) (by decide) dX6_tellItem_76 ?_
    obtain ⟨q77, h77, h⟩ := bnd h
    refine G_cNi (st := [.int q23, .int q14, .int q5, .long rname, .ref (ad 84)]) hC _ (c_X10_at (pp := 95) l (by omega) e_rnumarr h77) ⟨va_cnB 2 hC.hts gX6_tellItem_X10_at_n76 rfl rfl rfl (hC.2.2.2.1 ("TongueTip$Reader", 76, yX10_at, "TongueTip") (List.mem_of_getElem? (i := 8) rfl)) (hC.hts _ zi_X10_at) (by decide +kernel) ⟨Nat.le_of_ble_eq_true rfl, Nat.le_of_ble_eq_true rfl⟩, hC.hts _ zs_X10_at, trivial⟩ rfl (Nat.le_of_ble_eq_true rfl) (Nat.zero_le _) (Nat.zero_le _) rfl dX6_tellItem_77 (fun r77 enx hw => ?_)
    obtain ⟨rfl, rfl⟩ := hw
    refine G_aload_n hC 0 3 rfl rfl dX6_tellItem_80 ?_
    refine G_get hC inX6 83 (by omega) (v := .ref (ad 95)) e_reader rfl 2 (by decide) m22 rfl rfl dX6_tellItem_81 ?_
    refine G_iconst hC (v := 4) (by decide) dX6_tellItem_84 ?_
    obtain ⟨q85, h85, h⟩ := bnd h
    refine G_cNi (st := [.int q77, .int q23, .int q14, .int q5, .long rname, .ref (ad 84)]) hC _ (c_X10_at (pp := 95) l (by omega) e_rnumarr h85) ⟨va_cnB 2 hC.hts gX6_tellItem_X10_at_n76 rfl rfl rfl (hC.2.2.2.1 ("TongueTip$Reader", 76, yX10_at, "TongueTip") (List.mem_of_getElem? (i := 8) rfl)) (hC.hts _ zi_X10_at) (by decide +kernel) ⟨Nat.le_of_ble_eq_true rfl, Nat.le_of_ble_eq_true rfl⟩, hC.hts _ zs_X10_at, trivial⟩ rfl (Nat.le_of_ble_eq_true rfl) (Nat.zero_le _) (Nat.zero_le _) rfl dX6_tellItem_85 (fun r85 enx hw => ?_)
    obtain ⟨rfl, rfl⟩ := hw
    obtain ⟨q88, h88, h⟩ := bnd h
    refine G_cVi (st := []) hC _ 84 (by omega) (c_X1_tellOne (kk := 84) l (by omega) H_draft h88) (cwV 6 hC.hts gX6_tellItem_X1_tellOne rfl rfl rfl (by decide +kernel) ⟨Nat.le_of_ble_eq_true rfl, Nat.le_of_ble_eq_true rfl⟩) (H_draft 0 (by decide)) rfl rfl (Nat.le_of_ble_eq_true rfl) (Nat.zero_le _) (Nat.zero_le _) rfl dX6_tellItem_88 (fun r88 en2 hw => ?_)
    obtain ⟨rfl, H_draft, fr⟩ := hw
    have e_reader := (fr 83 (by omega)).trans e_reader
    have e_rnumarr := (fr 95 (by omega)).trans e_rnumarr
    have hfr : ∀ j, (j < 84 ∨ 95 ≤ j) → en2 j = en j := fun j o0 => (fr j (by omega)).trans (hfr j o0)
    have h := Option.some.inj h
    subst h
    exact Kr _ _ _ _ (nar_i _) ⟨rfl, H_draft, hfr⟩ dX6_tellItem_91
  have h := ifn c29_0 h
  by_cases c29_1 : x1 = (1 : Int32)
  · have h := ifp c29_1 h
    refine G_tabIn hC 92 dX6_tellItem_29 (by rw [c29_1]; decide) (by rw [c29_1]; decide) (off := 63) (by rw [c29_1]; decide) (by decide) ?_
    refine G_aload_n hC 0 3 rfl rfl dX6_tellItem_92 ?_
    refine G_get hC inX6 83 (by omega) (v := .ref (ad 84)) e_reader rfl 1 (by decide) m18 rfl rfl dX6_tellItem_93 ?_
    refine G_iload_n hC 2 2 rfl rfl dX6_tellItem_96 ?_
    refine G_iload_n hC 3 1 rfl rfl dX6_tellItem_97 ?_
    refine G_iload hC 4 0 rfl dX6_tellItem_98 ?_
    obtain ⟨q100, h100, h⟩ := bnd h
    refine G_cVi (st := []) hC _ 84 (by omega) (c_X1_tellTry (kk := 84) l (by omega) H_draft h100) (cwV 3 hC.hts gX6_tellItem_X1_tellTry rfl rfl rfl (by decide +kernel) ⟨Nat.le_of_ble_eq_true rfl, Nat.le_of_ble_eq_true rfl⟩) (H_draft 0 (by decide)) rfl rfl (Nat.le_of_ble_eq_true rfl) (Nat.zero_le _) (Nat.zero_le _) rfl dX6_tellItem_100 (fun r100 en3 hw => ?_)
    obtain ⟨rfl, H_draft, fr⟩ := hw
    have e_reader := (fr 83 (by omega)).trans e_reader
    have e_rnumarr := (fr 95 (by omega)).trans e_rnumarr
    have hfr : ∀ j, (j < 84 ∨ 95 ≤ j) → en3 j = en j := fun j o0 => (fr j (by omega)).trans (hfr j o0)
    have h := Option.some.inj h
    subst h
    exact Kr _ _ _ _ (nar_i _) ⟨rfl, H_draft, hfr⟩ dX6_tellItem_103
  have h := ifn c29_1 h
  by_cases c29_2 : x1 = (2 : Int32)
  · have h := ifp c29_2 h
    refine G_tabIn hC 104 dX6_tellItem_29 (by rw [c29_2]; decide) (by rw [c29_2]; decide) (off := 75) (by rw [c29_2]; decide) (by decide) ?_
    refine G_aload_n hC 0 3 rfl rfl dX6_tellItem_104 ?_
    refine G_get hC inX6 83 (by omega) (v := .ref (ad 84)) e_reader rfl 1 (by decide) m18 rfl rfl dX6_tellItem_105 ?_
    refine G_iload_n hC 2 2 rfl rfl dX6_tellItem_108 ?_
    refine G_iload_n hC 3 1 rfl rfl dX6_tellItem_109 ?_
    obtain ⟨q110, h110, h⟩ := bnd h
    refine G_cVi (st := []) hC _ 84 (by omega) (c_X1_tellQuestion (kk := 84) l (by omega) H_draft h110) (cwV 2 hC.hts gX6_tellItem_X1_tellQuestion rfl rfl rfl (by decide +kernel) ⟨Nat.le_of_ble_eq_true rfl, Nat.le_of_ble_eq_true rfl⟩) (H_draft 0 (by decide)) rfl rfl (Nat.le_of_ble_eq_true rfl) (Nat.zero_le _) (Nat.zero_le _) rfl dX6_tellItem_110 (fun r110 en4 hw => ?_)
    obtain ⟨rfl, H_draft, fr⟩ := hw
    have e_reader := (fr 83 (by omega)).trans e_reader
    have e_rnumarr := (fr 95 (by omega)).trans e_rnumarr
    have hfr : ∀ j, (j < 84 ∨ 95 ≤ j) → en4 j = en j := fun j o0 => (fr j (by omega)).trans (hfr j o0)
    have h := Option.some.inj h
    subst h
    exact Kr _ _ _ _ (nar_i _) ⟨rfl, H_draft, hfr⟩ dX6_tellItem_113
  have h := ifn c29_2 h
  by_cases c29_3 : x1 = (3 : Int32)
  · have h := ifp c29_3 h
    refine G_tabIn hC 114 dX6_tellItem_29 (by rw [c29_3]; decide) (by rw [c29_3]; decide) (off := 85) (by rw [c29_3]; decide) (by decide) ?_
    refine G_aload_n hC 0 3 rfl rfl dX6_tellItem_114 ?_
    refine G_get hC inX6 83 (by omega) (v := .ref (ad 84)) e_reader rfl 1 (by decide) m18 rfl rfl dX6_tellItem_115 ?_
    refine G_iconst hC (v := 0) (by decide) dX6_tellItem_118 ?_
    refine G_iload_n hC 2 2 rfl rfl dX6_tellItem_119 ?_
    obtain ⟨q120, h120, h⟩ := bnd h
    refine G_cVi (st := []) hC _ 84 (by omega) (c_X1_tellSetting (kk := 84) l (by omega) H_draft h120) (cwV 2 hC.hts gX6_tellItem_X1_tellSetting rfl rfl rfl (by decide +kernel) ⟨Nat.le_of_ble_eq_true rfl, Nat.le_of_ble_eq_true rfl⟩) (H_draft 0 (by decide)) rfl rfl (Nat.le_of_ble_eq_true rfl) (Nat.zero_le _) (Nat.zero_le _) rfl dX6_tellItem_120 (fun r120 en5 hw => ?_)
    obtain ⟨rfl, H_draft, fr⟩ := hw
    have e_reader := (fr 83 (by omega)).trans e_reader
    have e_rnumarr := (fr 95 (by omega)).trans e_rnumarr
    have hfr : ∀ j, (j < 84 ∨ 95 ≤ j) → en5 j = en j := fun j o0 => (fr j (by omega)).trans (hfr j o0)
    have h := Option.some.inj h
    subst h
    exact Kr _ _ _ _ (nar_i _) ⟨rfl, H_draft, hfr⟩ dX6_tellItem_123
  have h := ifn c29_3 h
  refine G_tabOut hC 124 dX6_tellItem_29 (sw_out 0 3 (by decide) (fun i h0 h1 => by
    rcases (show i = 0 ∨ i = 1 ∨ i = 2 ∨ i = 3 by omega) with rfl | rfl | rfl | rfl
    · exact c29_0
    · exact c29_1
    · exact c29_2
    · exact c29_3)) (by decide) ?_
  refine G_aload_n hC 0 3 rfl rfl dX6_tellItem_124 ?_
  refine G_get hC inX6 83 (by omega) (v := .ref (ad 84)) e_reader rfl 1 (by decide) m18 rfl rfl dX6_tellItem_125 ?_
  refine G_iconst hC (v := 1) (by decide) dX6_tellItem_128 ?_
  refine G_iload_n hC 2 2 rfl rfl dX6_tellItem_129 ?_
  obtain ⟨q130, h130, h⟩ := bnd h
  refine G_cVi (st := []) hC _ 84 (by omega) (c_X1_tellSetting (kk := 84) l (by omega) H_draft h130) (cwV 2 hC.hts gX6_tellItem_X1_tellSetting rfl rfl rfl (by decide +kernel) ⟨Nat.le_of_ble_eq_true rfl, Nat.le_of_ble_eq_true rfl⟩) (H_draft 0 (by decide)) rfl rfl (Nat.le_of_ble_eq_true rfl) (Nat.zero_le _) (Nat.zero_le _) rfl dX6_tellItem_130 (fun r130 en6 hw => ?_)
  obtain ⟨rfl, H_draft, fr⟩ := hw
  have e_reader := (fr 83 (by omega)).trans e_reader
  have e_rnumarr := (fr 95 (by omega)).trans e_rnumarr
  have hfr : ∀ j, (j < 84 ∨ 95 ≤ j) → en6 j = en j := fun j o0 => (fr j (by omega)).trans (hfr j o0)
  have h := Option.some.inj h
  subst h
  exact Kr _ _ _ _ (nar_i _) ⟨rfl, H_draft, hfr⟩ dX6_tellItem_133
def f_X6_readItem_B165 (tlen : Int32) (tby : Nat → Int32)  (rkind : Int32) (rstart : Int32) (rbehind : Int32) (rname : Int64) (ritems : Int32) (rfault : Int32) (rrefused : Int32) (draft : HallV) (rnums : Nat → Int32) : Option (Int32 × Int32 × Int32 × Int64 × Int32 × Int32 × Int32 × HallV × (Nat → Int32)) := some (rkind, rstart, rbehind, rname, ritems + (1 : Int32), rfault, rrefused, draft, rnums)
def f_X6_readItem_B130 (tlen : Int32) (tby : Nat → Int32)  (rkind : Int32) (rstart : Int32) (rbehind : Int32) (rname : Int64) (ritems : Int32) (rfault : Int32) (rrefused : Int32) (draft : HallV) (rnums : Nat → Int32) (x1 : Int32) (s1 : Int32) : Option (Int32 × Int32 × Int32 × Int64 × Int32 × Int32 × Int32 × HallV × (Nat → Int32)) := Option.bind (f_X6_expect tlen tby rkind rstart rbehind rfault s1) (fun q130 => if q130.2.2.2 = (-1 : Int32) then (if rrefused = (-1 : Int32) then (Option.bind (f_X6_tellItem rname draft rnums x1) (fun q151 => if 0 ≤ q151.1 then (f_X6_readItem_B165 tlen tby q130.1 q130.2.1 q130.2.2.1 rname ritems q130.2.2.2 rrefused q151.2 rnums) else (f_X6_readItem_B165 tlen tby q130.1 q130.2.1 q130.2.2.1 rname ritems q130.2.2.2 ritems q151.2 rnums))) else (f_X6_readItem_B165 tlen tby q130.1 q130.2.1 q130.2.2.1 rname ritems q130.2.2.2 rrefused draft rnums)) else (some (q130.1, q130.2.1, q130.2.2.1, rname, ritems, q130.2.2.2, rrefused, draft, rnums)))
def f_X6_readItem_B116 (tlen : Int32) (tby : Nat → Int32)  (rkind : Int32) (rstart : Int32) (rbehind : Int32) (rname : Int64) (ritems : Int32) (rfault : Int32) (rrefused : Int32) (draft : HallV) (rnums : Nat → Int32) (x1 : Int32) : Option (Int32 × Int32 × Int32 × Int64 × Int32 × Int32 × Int32 × HallV × (Nat → Int32)) := if rkind = (3 : Int32) then (f_X6_readItem_B130 tlen tby rkind rstart rbehind rname ritems rfault rrefused draft rnums x1 (1 : Int32)) else (f_X6_readItem_B130 tlen tby rkind rstart rbehind rname ritems rfault rrefused draft rnums x1 (0 : Int32))
def f_X6_readItem_B107 (tlen : Int32) (tby : Nat → Int32) (rL62 : Int32 → Int32 → Int32 → Int64 → Int32 → Int32 → Int32 → HallV → (Nat → Int32) → Int32 → Int32 → Option (Int32 × Int32 × Int32 × Int64 × Int32 × Int32 × Int32 × HallV × (Nat → Int32))) (rkind : Int32) (rstart : Int32) (rbehind : Int32) (rname : Int64) (ritems : Int32) (rfault : Int32) (rrefused : Int32) (draft : HallV) (rnums : Nat → Int32) (x1 : Int32) (x2 : Int32) (s1 : Int32) : Option (Int32 × Int32 × Int32 × Int64 × Int32 × Int32 × Int32 × HallV × (Nat → Int32)) := Option.bind (f_X6_expect tlen tby rkind rstart rbehind rfault s1) (fun q107 => rL62 q107.1 q107.2.1 q107.2.2.1 rname ritems q107.2.2.2 rrefused draft rnums x1 (x2 + (1 : Int32)))
def f_X6_readItem_L62 (tlen : Int32) (tby : Nat → Int32)  : Nat → Int32 → Int32 → Int32 → Int64 → Int32 → Int32 → Int32 → HallV → (Nat → Int32) → Int32 → Int32 → Option (Int32 × Int32 × Int32 × Int64 × Int32 × Int32 × Int32 × HallV × (Nat → Int32))
  | 0, _, _, _, _, _, _, _, _, _, _, _ => none
  | fu + 1, rkind, rstart, rbehind, rname, ritems, rfault, rrefused, draft, rnums, x1, x2 => Option.bind (f_X10_at_s 5 x1) (fun q67 => if q67 ≤ x2 then (f_X6_readItem_B116 tlen tby rkind rstart rbehind rname ritems rfault rrefused draft rnums x1) else (if rfault = (-1 : Int32) then (Option.bind (f_X6_tokenAsNumber tlen tby rkind rstart rbehind) (fun q87 => Option.bind (f_X10_set rnums 5 x2 q87) (fun q90 => if rkind = (2 : Int32) then (f_X6_readItem_B107 tlen tby (f_X6_readItem_L62 tlen tby fu) rkind rstart rbehind rname ritems rfault rrefused draft q90 x1 x2 (1 : Int32)) else (f_X6_readItem_B107 tlen tby (f_X6_readItem_L62 tlen tby fu) rkind rstart rbehind rname ritems rfault rrefused draft q90 x1 x2 (0 : Int32))))) else (f_X6_readItem_B116 tlen tby rkind rstart rbehind rname ritems rfault rrefused draft rnums x1)))
def f_X6_readItem_B60 (tlen : Int32) (tby : Nat → Int32)  (rkind : Int32) (rstart : Int32) (rbehind : Int32) (rname : Int64) (ritems : Int32) (rfault : Int32) (rrefused : Int32) (draft : HallV) (rnums : Nat → Int32) (x1 : Int32) : Option (Int32 × Int32 × Int32 × Int64 × Int32 × Int32 × Int32 × HallV × (Nat → Int32)) := f_X6_readItem_L62 tlen tby FU rkind rstart rbehind rname ritems rfault rrefused draft rnums x1 (0 : Int32)
def f_X6_readItem_B57 (tlen : Int32) (tby : Nat → Int32)  (rkind : Int32) (rstart : Int32) (rbehind : Int32) (rname : Int64) (ritems : Int32) (rfault : Int32) (rrefused : Int32) (draft : HallV) (rnums : Nat → Int32) (x1 : Int32) (s1 : Int32) : Option (Int32 × Int32 × Int32 × Int64 × Int32 × Int32 × Int32 × HallV × (Nat → Int32)) := Option.bind (f_X6_expect tlen tby rkind rstart rbehind rfault s1) (fun q57 => f_X6_readItem_B60 tlen tby q57.1 q57.2.1 q57.2.2.1 rname ritems q57.2.2.2 rrefused draft rnums x1)
def f_X6_readItem_B28 (tlen : Int32) (tby : Nat → Int32)  (rkind : Int32) (rstart : Int32) (rbehind : Int32) (rname : Int64) (ritems : Int32) (rfault : Int32) (rrefused : Int32) (draft : HallV) (rnums : Nat → Int32) (x1 : Int32) (s1 : Int32) : Option (Int32 × Int32 × Int32 × Int64 × Int32 × Int32 × Int32 × HallV × (Nat → Int32)) := Option.bind (f_X6_expect tlen tby rkind rstart rbehind rfault s1) (fun q28 => if x1 = 0 then (Option.bind (f_X6_wordAsName tlen tby q28.2.1 q28.2.2.1) (fun q37 => if q28.1 = (1 : Int32) then (f_X6_readItem_B57 tlen tby q28.1 q28.2.1 q28.2.2.1 q37 ritems q28.2.2.2 rrefused draft rnums x1 (1 : Int32)) else (f_X6_readItem_B57 tlen tby q28.1 q28.2.1 q28.2.2.1 q37 ritems q28.2.2.2 rrefused draft rnums x1 (0 : Int32)))) else (f_X6_readItem_B60 tlen tby q28.1 q28.2.1 q28.2.2.1 rname ritems q28.2.2.2 rrefused draft rnums x1))
def f_X6_readItem_B16 (tlen : Int32) (tby : Nat → Int32)  (rkind : Int32) (rstart : Int32) (rbehind : Int32) (rname : Int64) (ritems : Int32) (rfault : Int32) (rrefused : Int32) (draft : HallV) (rnums : Nat → Int32) (s0 : Int32) : Option (Int32 × Int32 × Int32 × Int64 × Int32 × Int32 × Int32 × HallV × (Nat → Int32)) := if s0 = (-1 : Int32) then (f_X6_readItem_B28 tlen tby rkind rstart rbehind rname ritems rfault rrefused draft rnums s0 (0 : Int32)) else (f_X6_readItem_B28 tlen tby rkind rstart rbehind rname ritems rfault rrefused draft rnums s0 (1 : Int32))
def f_X6_readItem (tlen : Int32) (tby : Nat → Int32) (rkind : Int32) (rstart : Int32) (rbehind : Int32) (rname : Int64) (ritems : Int32) (rfault : Int32) (rrefused : Int32) (draft : HallV) (rnums : Nat → Int32)  : Option (Int32 × Int32 × Int32 × Int64 × Int32 × Int32 × Int32 × HallV × (Nat → Int32)) := if rkind = (1 : Int32) then (Option.bind (f_X6_whatItem tlen tby rstart rbehind) (fun q9 => f_X6_readItem_B16 tlen tby rkind rstart rbehind rname ritems rfault rrefused draft rnums q9)) else (f_X6_readItem_B16 tlen tby rkind rstart rbehind rname ritems rfault rrefused draft rnums (-1 : Int32))
set_option maxHeartbeats 4000000 in
set_option maxRecDepth 100000 in
theorem c_X6_readItem {D : va_G} {cs : Nat → ClassId} {sa : Nat → Nat} {n : Nat} {ad : Nat → Nat} {A : Nat → Prop} (l : Launch) {en : Nat → va_E}  {tlen : Int32} {tby : Nat → Int32} {rkind : Int32} {rstart : Int32} {rbehind : Int32} {rname : Int64} {ritems : Int32} {rfault : Int32} {rrefused : Int32} {draft : HallV} {rnums : Nat → Int32}   {q : Int32 × Int32 × Int32 × Int64 × Int32 × Int32 × Int32 × HallV × (Nat → Int32)} (hn : 110 ≤ n) (e_text : en 81 = .inr (6, [.ref (ad 82), .int tlen])) (e_reader : en 83 = .inr (3, [.ref (ad 81), .ref (ad 84), .ref (ad 95), .int rkind, .int rstart, .int rbehind, .long rname, .int ritems, .int rfault, .int rrefused])) (e_tbytes : en 82 = .inl (cs 0, 300, .inl (tby))) (e_rnumarr : en 95 = .inl (cs 1, 5, .inl (rnums))) (H_draft : Hall cs ad en 84 draft) (h : f_X6_readItem tlen tby rkind rstart rbehind rname ritems rfault rrefused draft rnums = some q) : Met l yX6_readItem wsX6_readItem { frames := 6, cells := 0, slots := 0, locals := 128 } (va_Pc [.ref (ad 83)] (Wd D cs sa n ad A en)) (va_Qv (fun u => u 83 = .inr (3, [.ref (ad 81), .ref (ad 84), .ref (ad 95), .int q.1, .int q.2.1, .int q.2.2.1, .long q.2.2.2.1, .int q.2.2.2.2.1, .int q.2.2.2.2.2.1, .int q.2.2.2.2.2.2.1]) ∧ u 95 = .inl (cs 1, 5, .inl (q.2.2.2.2.2.2.2.2)) ∧ Hall cs ad u 84 q.2.2.2.2.2.2.2.1 ∧ (∀ j, (j < 83 ∨ 84 ≤ j) → (j < 95 ∨ 96 ≤ j) → (j < 84 ∨ 95 ≤ j) → u j = en j)) (Wd D cs sa n ad A) A) 0 0 A := by
  refine G_startV cX6_readItem 3 [(0, .ref (ad 83))] (by decide) rfl (Nat.le_of_ble_eq_true rfl) rfl ?_
  intro p e s m args below meth c Q hC hnm Kr
  have inX6 : ∀ w ∈ u_ws RX6 TX6 10, w ∈ wsX6_readItem := by decide +kernel
  have m22 : Cond.fieldLink RX6 22 "TongueTip$Reader" "numbers" "[I" ∈ wsX6_readItem := by decide +kernel
  have m33 : Cond.fieldLink RX6 33 "TongueTip$Reader" "items" "I" ∈ wsX6_readItem := by decide +kernel
  have m36 : Cond.fieldLink RX6 36 "TongueTip$Reader" "fault" "I" ∈ wsX6_readItem := by decide +kernel
  have m39 : Cond.fieldLink RX6 39 "TongueTip$Reader" "refused" "I" ∈ wsX6_readItem := by decide +kernel
  have m47 : Cond.fieldLink RX6 47 "TongueTip$Reader" "kind" "I" ∈ wsX6_readItem := by decide +kernel
  have m69 : Cond.fieldLink RX6 69 "TongueTip$Reader" "name" "J" ∈ wsX6_readItem := by decide +kernel
  have m73 : Cond.fieldLink RX6 73 "TongueTip$Reader" "NUMBERS" "[I" ∈ wsX6_readItem := by decide +kernel
  have zi_X10_at : Cond.initialized RX10 ∈ wsX6_readItem := by decide +kernel
  have zi_X10_set : Cond.initialized RX10 ∈ wsX6_readItem := by decide +kernel
  have zs_X10_at : Cond.static yX10_at ∈ wsX6_readItem := by decide +kernel
  have zs_X10_set : Cond.static yX10_set ∈ wsX6_readItem := by decide +kernel
  have hB165 : ∀ (en1 : Nat → va_E) (rkind : Int32) (rstart : Int32) (rbehind : Int32) (rname : Int64) (ritems : Int32) (rfault : Int32) (rrefused : Int32) (draft : HallV) (rnums : Nat → Int32), en1 81 = .inr (6, [.ref (ad 82), .int tlen]) → en1 83 = .inr (3, [.ref (ad 81), .ref (ad 84), .ref (ad 95), .int rkind, .int rstart, .int rbehind, .long rname, .int ritems, .int rfault, .int rrefused]) → en1 82 = .inl (cs 0, 300, .inl (tby)) → en1 95 = .inl (cs 1, 5, .inl (rnums)) → Hall cs ad en1 84 draft → (∀ j, (j < 83 ∨ 84 ≤ j) → (j < 95 ∨ 96 ≤ j) → (j < 84 ∨ 95 ≤ j) → en1 j = en j) → f_X6_readItem_B165 tlen tby rkind rstart rbehind rname ritems rfault rrefused draft rnums = some q → G p l e ({ frames := 6, cells := 0, slots := 0, locals := 128 } : Room) s m args below meth c D n ad A 3 0 0 Q en1 165 [(0, .ref (ad 83))] [] := by
    intro en1 rkind rstart rbehind rname ritems rfault rrefused draft rnums e_text e_reader e_tbytes e_rnumarr H_draft hfr h
    unfold f_X6_readItem_B165 at h
    refine G_aload_n hC 0 0 rfl rfl dX6_readItem_165 ?_
    refine G_dup hC rfl dX6_readItem_166 ?_
    refine G_get hC inX6 83 (by omega) (v := .int ritems) e_reader rfl 7 (by decide) m33 rfl rfl dX6_readItem_167 ?_
    refine G_iconst hC (v := 1) (by decide) dX6_readItem_170 ?_
    refine G_iadd hC dX6_readItem_171 ?_
    refine G_put hC inX6 tyX6 tyX6_ok nmX6 83 (by omega) e_reader rfl 7 (by decide) m33 rfl rfl (ty := .int) rfl rfl rfl (Nat.le_of_ble_eq_true rfl) dX6_readItem_172 (fun en2 e_reader fr => ?_)
    have e_reader : en2 83 = .inr (3, [.ref (ad 81), .ref (ad 84), .ref (ad 95), .int rkind, .int rstart, .int rbehind, .long rname, .int (ritems + (1 : Int32)), .int rfault, .int rrefused]) := e_reader
    have e_text := (fr 81 (by omega)).trans e_text
    have e_tbytes := (fr 82 (by omega)).trans e_tbytes
    have e_rnumarr := (fr 95 (by omega)).trans e_rnumarr
    have H_draft := H_draft.fr (fun j h1 h2 => fr j (by omega))
    have hfr : ∀ j, (j < 83 ∨ 84 ≤ j) → (j < 95 ∨ 96 ≤ j) → (j < 84 ∨ 95 ≤ j) → en2 j = en j := fun j o0 o1 o2 => (fr j (by omega)).trans (hfr j o0 o1 o2)
    have h := Option.some.inj h
    subst h
    exact Kr _ _ _ ⟨e_reader, e_rnumarr, H_draft, hfr⟩ dX6_readItem_175
  have hB130 : ∀ (en1 : Nat → va_E) (rkind : Int32) (rstart : Int32) (rbehind : Int32) (rname : Int64) (ritems : Int32) (rfault : Int32) (rrefused : Int32) (draft : HallV) (rnums : Nat → Int32) (x1 : Int32) (s1 : Int32), en1 81 = .inr (6, [.ref (ad 82), .int tlen]) → en1 83 = .inr (3, [.ref (ad 81), .ref (ad 84), .ref (ad 95), .int rkind, .int rstart, .int rbehind, .long rname, .int ritems, .int rfault, .int rrefused]) → en1 82 = .inl (cs 0, 300, .inl (tby)) → en1 95 = .inl (cs 1, 5, .inl (rnums)) → Hall cs ad en1 84 draft → (∀ j, (j < 83 ∨ 84 ≤ j) → (j < 95 ∨ 96 ≤ j) → (j < 84 ∨ 95 ≤ j) → en1 j = en j) → f_X6_readItem_B130 tlen tby rkind rstart rbehind rname ritems rfault rrefused draft rnums x1 s1 = some q → G p l e ({ frames := 6, cells := 0, slots := 0, locals := 128 } : Room) s m args below meth c D n ad A 3 0 0 Q en1 130 [(0, .ref (ad 83)), (1, .int x1)] [.int s1, .ref (ad 83)] := by
    intro en1 rkind rstart rbehind rname ritems rfault rrefused draft rnums x1 s1 e_text e_reader e_tbytes e_rnumarr H_draft hfr h
    unfold f_X6_readItem_B130 at h
    obtain ⟨q130, h130, h⟩ := bnd h
    refine G_cVv (st := []) hC _ 83 (by omega) (c_X6_expect  l (by omega) e_text e_reader e_tbytes h130) (cwV 1 hC.hts gX6_readItem_X6_expect rfl rfl rfl (by decide +kernel) ⟨Nat.le_of_ble_eq_true rfl, Nat.le_of_ble_eq_true rfl⟩) e_reader rfl rfl (Nat.le_of_ble_eq_true rfl) (Nat.zero_le _) (Nat.zero_le _) rfl dX6_readItem_130 (fun en2 hw => ?_)
    obtain ⟨e_reader, fr⟩ := hw
    have e_text := (fr 81 (by omega)).trans e_text
    have e_tbytes := (fr 82 (by omega)).trans e_tbytes
    have e_rnumarr := (fr 95 (by omega)).trans e_rnumarr
    have H_draft := H_draft.fr (fun j h1 h2 => fr j (by omega))
    have hfr : ∀ j, (j < 83 ∨ 84 ≤ j) → (j < 95 ∨ 96 ≤ j) → (j < 84 ∨ 95 ≤ j) → en2 j = en j := fun j o0 o1 o2 => (fr j (by omega)).trans (hfr j o0 o1 o2)
    refine G_aload_n hC 0 0 rfl rfl dX6_readItem_133 ?_
    refine G_get hC inX6 83 (by omega) (v := .int q130.2.2.2) e_reader rfl 8 (by decide) m36 rfl rfl dX6_readItem_134 ?_
    refine G_iconst hC (v := (-1)) (by decide) dX6_readItem_137 ?_
    refine G_icmp_ne hC 175 dX6_readItem_138 (by decide) (fun c138 => ?_) (fun c138 => ?_)
    · have h := ifn c138 h
      have h := Option.some.inj h
      subst h
      exact Kr _ _ _ ⟨e_reader, e_rnumarr, H_draft, hfr⟩ dX6_readItem_175
    have h := ifp c138 h
    refine G_aload_n hC 0 0 rfl rfl dX6_readItem_141 ?_
    refine G_get hC inX6 83 (by omega) (v := .int rrefused) e_reader rfl 9 (by decide) m39 rfl rfl dX6_readItem_142 ?_
    refine G_iconst hC (v := (-1)) (by decide) dX6_readItem_145 ?_
    refine G_icmp_ne hC 165 dX6_readItem_146 (by decide) (fun c146 => ?_) (fun c146 => ?_)
    · have h := ifn c146 h
      refine G_lv [0] rfl ?_
      exact hB165 _ _ _ _ _ _ _ _ _ _ e_text e_reader e_tbytes e_rnumarr H_draft hfr h
    have h := ifp c146 h
    refine G_aload_n hC 0 0 rfl rfl dX6_readItem_149 ?_
    refine G_iload_n hC 1 1 rfl rfl dX6_readItem_150 ?_
    obtain ⟨q151, h151, h⟩ := bnd h
    refine G_cVi (st := []) hC _ 83 (by omega) (c_X6_tellItem  l (by omega) e_reader e_rnumarr H_draft h151) (cwV 1 hC.hts gX6_readItem_X6_tellItem rfl rfl rfl (by decide +kernel) ⟨Nat.le_of_ble_eq_true rfl, Nat.le_of_ble_eq_true rfl⟩) e_reader rfl rfl (Nat.le_of_ble_eq_true rfl) (Nat.zero_le _) (Nat.zero_le _) rfl dX6_readItem_151 (fun r151 en3 hw => ?_)
    obtain ⟨rfl, H_draft, fr⟩ := hw
    have e_text := (fr 81 (by omega)).trans e_text
    have e_reader := (fr 83 (by omega)).trans e_reader
    have e_tbytes := (fr 82 (by omega)).trans e_tbytes
    have e_rnumarr := (fr 95 (by omega)).trans e_rnumarr
    have hfr : ∀ j, (j < 83 ∨ 84 ≤ j) → (j < 95 ∨ 96 ≤ j) → (j < 84 ∨ 95 ≤ j) → en3 j = en j := fun j o0 o1 o2 => (fr j (by omega)).trans (hfr j o0 o1 o2)
    refine G_if_ge hC 165 dX6_readItem_154 (by decide) (fun c154 => ?_) (fun c154 => ?_)
    · have h := ifp c154 h
      refine G_lv [0] rfl ?_
      exact hB165 _ _ _ _ _ _ _ _ _ _ e_text e_reader e_tbytes e_rnumarr H_draft hfr h
    have h := ifn c154 h
    refine G_aload_n hC 0 0 rfl rfl dX6_readItem_157 ?_
    refine G_aload_n hC 0 0 rfl rfl dX6_readItem_158 ?_
    refine G_get hC inX6 83 (by omega) (v := .int ritems) e_reader rfl 7 (by decide) m33 rfl rfl dX6_readItem_159 ?_
    refine G_put hC inX6 tyX6 tyX6_ok nmX6 83 (by omega) e_reader rfl 9 (by decide) m39 rfl rfl (ty := .int) rfl rfl rfl (Nat.le_of_ble_eq_true rfl) dX6_readItem_162 (fun en4 e_reader fr => ?_)
    have e_reader : en4 83 = .inr (3, [.ref (ad 81), .ref (ad 84), .ref (ad 95), .int q130.1, .int q130.2.1, .int q130.2.2.1, .long rname, .int ritems, .int q130.2.2.2, .int ritems]) := e_reader
    have e_text := (fr 81 (by omega)).trans e_text
    have e_tbytes := (fr 82 (by omega)).trans e_tbytes
    have e_rnumarr := (fr 95 (by omega)).trans e_rnumarr
    have H_draft := H_draft.fr (fun j h1 h2 => fr j (by omega))
    have hfr : ∀ j, (j < 83 ∨ 84 ≤ j) → (j < 95 ∨ 96 ≤ j) → (j < 84 ∨ 95 ≤ j) → en4 j = en j := fun j o0 o1 o2 => (fr j (by omega)).trans (hfr j o0 o1 o2)
    refine G_lv [0] rfl ?_
    exact hB165 _ _ _ _ _ _ _ _ _ _ e_text e_reader e_tbytes e_rnumarr H_draft hfr h
  have hB116 : ∀ (en1 : Nat → va_E) (rkind : Int32) (rstart : Int32) (rbehind : Int32) (rname : Int64) (ritems : Int32) (rfault : Int32) (rrefused : Int32) (draft : HallV) (rnums : Nat → Int32) (x1 : Int32), en1 81 = .inr (6, [.ref (ad 82), .int tlen]) → en1 83 = .inr (3, [.ref (ad 81), .ref (ad 84), .ref (ad 95), .int rkind, .int rstart, .int rbehind, .long rname, .int ritems, .int rfault, .int rrefused]) → en1 82 = .inl (cs 0, 300, .inl (tby)) → en1 95 = .inl (cs 1, 5, .inl (rnums)) → Hall cs ad en1 84 draft → (∀ j, (j < 83 ∨ 84 ≤ j) → (j < 95 ∨ 96 ≤ j) → (j < 84 ∨ 95 ≤ j) → en1 j = en j) → f_X6_readItem_B116 tlen tby rkind rstart rbehind rname ritems rfault rrefused draft rnums x1 = some q → G p l e ({ frames := 6, cells := 0, slots := 0, locals := 128 } : Room) s m args below meth c D n ad A 3 0 0 Q en1 116 [(0, .ref (ad 83)), (1, .int x1)] [] := by
    intro en1 rkind rstart rbehind rname ritems rfault rrefused draft rnums x1 e_text e_reader e_tbytes e_rnumarr H_draft hfr h
    unfold f_X6_readItem_B116 at h
    refine G_aload_n hC 0 0 rfl rfl dX6_readItem_116 ?_
    refine G_aload_n hC 0 0 rfl rfl dX6_readItem_117 ?_
    refine G_get hC inX6 83 (by omega) (v := .int rkind) e_reader rfl 3 (by decide) m47 rfl rfl dX6_readItem_118 ?_
    refine G_iconst hC (v := 3) (by decide) dX6_readItem_121 ?_
    refine G_icmp_ne hC 129 dX6_readItem_122 (by decide) (fun c122 => ?_) (fun c122 => ?_)
    · have h := ifn c122 h
      refine G_iconst hC (v := 0) (by decide) dX6_readItem_129 ?_
      refine G_lv [0, 1] rfl ?_
      exact hB130 _ _ _ _ _ _ _ _ _ _ _ _ e_text e_reader e_tbytes e_rnumarr H_draft hfr h
    have h := ifp c122 h
    refine G_iconst hC (v := 1) (by decide) dX6_readItem_125 ?_
    refine G_goto hC 130 dX6_readItem_126 (by decide) ?_
    refine G_lv [0, 1] rfl ?_
    exact hB130 _ _ _ _ _ _ _ _ _ _ _ _ e_text e_reader e_tbytes e_rnumarr H_draft hfr h
  have hL62 : ∀ (fu62 : Nat), ∀ (en1 : Nat → va_E) (rkind : Int32) (rstart : Int32) (rbehind : Int32) (rname : Int64) (ritems : Int32) (rfault : Int32) (rrefused : Int32) (draft : HallV) (rnums : Nat → Int32) (x1 : Int32) (x2 : Int32), en1 81 = .inr (6, [.ref (ad 82), .int tlen]) → en1 83 = .inr (3, [.ref (ad 81), .ref (ad 84), .ref (ad 95), .int rkind, .int rstart, .int rbehind, .long rname, .int ritems, .int rfault, .int rrefused]) → en1 82 = .inl (cs 0, 300, .inl (tby)) → en1 95 = .inl (cs 1, 5, .inl (rnums)) → Hall cs ad en1 84 draft → (∀ j, (j < 83 ∨ 84 ≤ j) → (j < 95 ∨ 96 ≤ j) → (j < 84 ∨ 95 ≤ j) → en1 j = en j) → f_X6_readItem_L62 tlen tby fu62 rkind rstart rbehind rname ritems rfault rrefused draft rnums x1 x2 = some q → G p l e ({ frames := 6, cells := 0, slots := 0, locals := 128 } : Room) s m args below meth c D n ad A 3 0 0 Q en1 62 [(0, .ref (ad 83)), (1, .int x1), (2, .int x2)] [] := by
    intro fu62
    induction fu62 with
    | zero =>
      intro en1 rkind rstart rbehind rname ritems rfault rrefused draft rnums x1 x2 e_text e_reader e_tbytes e_rnumarr H_draft hfr h
      rw [f_X6_readItem_L62] at h
      cases h
    | succ fu62 ih62 =>
      have hB107 : ∀ (en1 : Nat → va_E) (rkind : Int32) (rstart : Int32) (rbehind : Int32) (rname : Int64) (ritems : Int32) (rfault : Int32) (rrefused : Int32) (draft : HallV) (rnums : Nat → Int32) (x1 : Int32) (x2 : Int32) (s1 : Int32), en1 81 = .inr (6, [.ref (ad 82), .int tlen]) → en1 83 = .inr (3, [.ref (ad 81), .ref (ad 84), .ref (ad 95), .int rkind, .int rstart, .int rbehind, .long rname, .int ritems, .int rfault, .int rrefused]) → en1 82 = .inl (cs 0, 300, .inl (tby)) → en1 95 = .inl (cs 1, 5, .inl (rnums)) → Hall cs ad en1 84 draft → (∀ j, (j < 83 ∨ 84 ≤ j) → (j < 95 ∨ 96 ≤ j) → (j < 84 ∨ 95 ≤ j) → en1 j = en j) → f_X6_readItem_B107 tlen tby (f_X6_readItem_L62 tlen tby fu62) rkind rstart rbehind rname ritems rfault rrefused draft rnums x1 x2 s1 = some q → G p l e ({ frames := 6, cells := 0, slots := 0, locals := 128 } : Room) s m args below meth c D n ad A 3 0 0 Q en1 107 [(0, .ref (ad 83)), (1, .int x1), (2, .int x2)] [.int s1, .ref (ad 83)] := by
        intro en1 rkind rstart rbehind rname ritems rfault rrefused draft rnums x1 x2 s1 e_text e_reader e_tbytes e_rnumarr H_draft hfr h
        unfold f_X6_readItem_B107 at h
        obtain ⟨q107, h107, h⟩ := bnd h
        refine G_cVv (st := []) hC _ 83 (by omega) (c_X6_expect  l (by omega) e_text e_reader e_tbytes h107) (cwV 1 hC.hts gX6_readItem_X6_expect rfl rfl rfl (by decide +kernel) ⟨Nat.le_of_ble_eq_true rfl, Nat.le_of_ble_eq_true rfl⟩) e_reader rfl rfl (Nat.le_of_ble_eq_true rfl) (Nat.zero_le _) (Nat.zero_le _) rfl dX6_readItem_107 (fun en2 hw => ?_)
        obtain ⟨e_reader, fr⟩ := hw
        have e_text := (fr 81 (by omega)).trans e_text
        have e_tbytes := (fr 82 (by omega)).trans e_tbytes
        have e_rnumarr := (fr 95 (by omega)).trans e_rnumarr
        have H_draft := H_draft.fr (fun j h1 h2 => fr j (by omega))
        have hfr : ∀ j, (j < 83 ∨ 84 ≤ j) → (j < 95 ∨ 96 ≤ j) → (j < 84 ∨ 95 ≤ j) → en2 j = en j := fun j o0 o1 o2 => (fr j (by omega)).trans (hfr j o0 o1 o2)
        refine G_iinc hC 2 2 [(2, .int (x2 + (1 : Int32))), (0, .ref (ad 83)), (1, .int x1)] rfl rfl (by decide) rfl dX6_readItem_110 ?_
        refine G_goto hC 62 dX6_readItem_113 (by decide) ?_
        refine G_lv [1, 2, 0] rfl ?_
        exact ih62 _ _ _ _ _ _ _ _ _ _ _ _ e_text e_reader e_tbytes e_rnumarr H_draft hfr h
      intro en1 rkind rstart rbehind rname ritems rfault rrefused draft rnums x1 x2 e_text e_reader e_tbytes e_rnumarr H_draft hfr h
      rw [f_X6_readItem_L62] at h
      refine G_iload_n hC 2 2 rfl rfl dX6_readItem_62 ?_
      refine G_gets hC 5 (by decide) m73 dX6_readItem_63 ?_
      refine G_iload_n hC 1 1 rfl rfl dX6_readItem_66 ?_
      obtain ⟨q67, h67, h⟩ := bnd h
      refine G_cNi (st := [.int x2]) hC _ (c_X10_at_s (ist := 5) l (by omega) h67) ⟨va_cnB 2 hC.hts gX6_readItem_X10_at_n76 rfl rfl rfl (hC.2.2.2.1 ("TongueTip$Reader", 76, yX10_at, "TongueTip") (List.mem_of_getElem? (i := 8) rfl)) (hC.hts _ zi_X10_at) (by decide +kernel) ⟨Nat.le_of_ble_eq_true rfl, Nat.le_of_ble_eq_true rfl⟩, hC.hts _ zs_X10_at, trivial⟩ rfl (Nat.le_of_ble_eq_true rfl) (Nat.zero_le _) (Nat.zero_le _) rfl dX6_readItem_67 (fun r67 enx hw => ?_)
      obtain ⟨rfl, rfl⟩ := hw
      refine G_icmp_ge hC 116 dX6_readItem_70 (by decide) (fun c70 => ?_) (fun c70 => ?_)
      · have h := ifp c70 h
        refine G_lv [0, 1] rfl ?_
        exact hB116 _ _ _ _ _ _ _ _ _ _ _ e_text e_reader e_tbytes e_rnumarr H_draft hfr h
      have h := ifn c70 h
      refine G_aload_n hC 0 0 rfl rfl dX6_readItem_73 ?_
      refine G_get hC inX6 83 (by omega) (v := .int rfault) e_reader rfl 8 (by decide) m36 rfl rfl dX6_readItem_74 ?_
      refine G_iconst hC (v := (-1)) (by decide) dX6_readItem_77 ?_
      refine G_icmp_ne hC 116 dX6_readItem_78 (by decide) (fun c78 => ?_) (fun c78 => ?_)
      · have h := ifn c78 h
        refine G_lv [0, 1] rfl ?_
        exact hB116 _ _ _ _ _ _ _ _ _ _ _ e_text e_reader e_tbytes e_rnumarr H_draft hfr h
      have h := ifp c78 h
      refine G_aload_n hC 0 0 rfl rfl dX6_readItem_81 ?_
      refine G_get hC inX6 83 (by omega) (v := .ref (ad 95)) e_reader rfl 2 (by decide) m22 rfl rfl dX6_readItem_82 ?_
      refine G_iload_n hC 2 2 rfl rfl dX6_readItem_85 ?_
      refine G_aload_n hC 0 0 rfl rfl dX6_readItem_86 ?_
      obtain ⟨q87, h87, h⟩ := bnd h
      refine G_cVi (st := [.int x2, .ref (ad 95)]) hC _ 83 (by omega) (c_X6_tokenAsNumber  l (by omega) e_text e_reader e_tbytes h87) (cwV 0 hC.hts gX6_readItem_X6_tokenAsNumber rfl rfl rfl (by decide +kernel) ⟨Nat.le_of_ble_eq_true rfl, Nat.le_of_ble_eq_true rfl⟩) e_reader rfl rfl (Nat.le_of_ble_eq_true rfl) (Nat.zero_le _) (Nat.zero_le _) rfl dX6_readItem_87 (fun r87 enx hw => ?_)
      obtain ⟨rfl, rfl⟩ := hw
      obtain ⟨q90, h90, h⟩ := bnd h
      refine G_cNv (st := []) hC _ (c_X10_set (pp := 95) l (by omega) e_rnumarr h90) ⟨va_cnB 3 hC.hts gX6_readItem_X10_set_n83 rfl rfl rfl (hC.2.2.2.1 ("TongueTip$Reader", 83, yX10_set, "TongueTip") (List.mem_of_getElem? (i := 9) rfl)) (hC.hts _ zi_X10_set) (by decide +kernel) ⟨Nat.le_of_ble_eq_true rfl, Nat.le_of_ble_eq_true rfl⟩, hC.hts _ zs_X10_set, trivial⟩ rfl (Nat.le_of_ble_eq_true rfl) (Nat.zero_le _) (Nat.zero_le _) rfl dX6_readItem_90 (fun en2 hw => ?_)
      obtain ⟨e_rnumarr, fr⟩ := hw
      have e_text := (fr 81 (by omega)).trans e_text
      have e_reader := (fr 83 (by omega)).trans e_reader
      have e_tbytes := (fr 82 (by omega)).trans e_tbytes
      have H_draft := H_draft.fr (fun j h1 h2 => fr j (by omega))
      have hfr : ∀ j, (j < 83 ∨ 84 ≤ j) → (j < 95 ∨ 96 ≤ j) → (j < 84 ∨ 95 ≤ j) → en2 j = en j := fun j o0 o1 o2 => (fr j (by omega)).trans (hfr j o0 o1 o2)
      refine G_aload_n hC 0 0 rfl rfl dX6_readItem_93 ?_
      refine G_aload_n hC 0 0 rfl rfl dX6_readItem_94 ?_
      refine G_get hC inX6 83 (by omega) (v := .int rkind) e_reader rfl 3 (by decide) m47 rfl rfl dX6_readItem_95 ?_
      refine G_iconst hC (v := 2) (by decide) dX6_readItem_98 ?_
      refine G_icmp_ne hC 106 dX6_readItem_99 (by decide) (fun c99 => ?_) (fun c99 => ?_)
      · have h := ifn c99 h
        refine G_iconst hC (v := 0) (by decide) dX6_readItem_106 ?_
        refine G_lv [0, 1, 2] rfl ?_
        exact hB107 _ _ _ _ _ _ _ _ _ _ _ _ _ e_text e_reader e_tbytes e_rnumarr H_draft hfr h
      have h := ifp c99 h
      refine G_iconst hC (v := 1) (by decide) dX6_readItem_102 ?_
      refine G_goto hC 107 dX6_readItem_103 (by decide) ?_
      refine G_lv [0, 1, 2] rfl ?_
      exact hB107 _ _ _ _ _ _ _ _ _ _ _ _ _ e_text e_reader e_tbytes e_rnumarr H_draft hfr h
  have hB60 : ∀ (en1 : Nat → va_E) (rkind : Int32) (rstart : Int32) (rbehind : Int32) (rname : Int64) (ritems : Int32) (rfault : Int32) (rrefused : Int32) (draft : HallV) (rnums : Nat → Int32) (x1 : Int32), en1 81 = .inr (6, [.ref (ad 82), .int tlen]) → en1 83 = .inr (3, [.ref (ad 81), .ref (ad 84), .ref (ad 95), .int rkind, .int rstart, .int rbehind, .long rname, .int ritems, .int rfault, .int rrefused]) → en1 82 = .inl (cs 0, 300, .inl (tby)) → en1 95 = .inl (cs 1, 5, .inl (rnums)) → Hall cs ad en1 84 draft → (∀ j, (j < 83 ∨ 84 ≤ j) → (j < 95 ∨ 96 ≤ j) → (j < 84 ∨ 95 ≤ j) → en1 j = en j) → f_X6_readItem_B60 tlen tby rkind rstart rbehind rname ritems rfault rrefused draft rnums x1 = some q → G p l e ({ frames := 6, cells := 0, slots := 0, locals := 128 } : Room) s m args below meth c D n ad A 3 0 0 Q en1 60 [(0, .ref (ad 83)), (1, .int x1)] [] := by
    intro en1 rkind rstart rbehind rname ritems rfault rrefused draft rnums x1 e_text e_reader e_tbytes e_rnumarr H_draft hfr h
    unfold f_X6_readItem_B60 at h
    refine G_iconst hC (v := 0) (by decide) dX6_readItem_60 ?_
    refine G_istore_n hC 2 [(2, .int (0 : Int32)), (0, .ref (ad 83)), (1, .int x1)] rfl (by decide) rfl dX6_readItem_61 ?_
    refine G_lv [1, 2, 0] rfl ?_
    exact hL62 FU _ _ _ _ _ _ _ _ _ _ _ _ e_text e_reader e_tbytes e_rnumarr H_draft hfr h
  have hB57 : ∀ (en1 : Nat → va_E) (rkind : Int32) (rstart : Int32) (rbehind : Int32) (rname : Int64) (ritems : Int32) (rfault : Int32) (rrefused : Int32) (draft : HallV) (rnums : Nat → Int32) (x1 : Int32) (s1 : Int32), en1 81 = .inr (6, [.ref (ad 82), .int tlen]) → en1 83 = .inr (3, [.ref (ad 81), .ref (ad 84), .ref (ad 95), .int rkind, .int rstart, .int rbehind, .long rname, .int ritems, .int rfault, .int rrefused]) → en1 82 = .inl (cs 0, 300, .inl (tby)) → en1 95 = .inl (cs 1, 5, .inl (rnums)) → Hall cs ad en1 84 draft → (∀ j, (j < 83 ∨ 84 ≤ j) → (j < 95 ∨ 96 ≤ j) → (j < 84 ∨ 95 ≤ j) → en1 j = en j) → f_X6_readItem_B57 tlen tby rkind rstart rbehind rname ritems rfault rrefused draft rnums x1 s1 = some q → G p l e ({ frames := 6, cells := 0, slots := 0, locals := 128 } : Room) s m args below meth c D n ad A 3 0 0 Q en1 57 [(0, .ref (ad 83)), (1, .int x1)] [.int s1, .ref (ad 83)] := by
    intro en1 rkind rstart rbehind rname ritems rfault rrefused draft rnums x1 s1 e_text e_reader e_tbytes e_rnumarr H_draft hfr h
    unfold f_X6_readItem_B57 at h
    obtain ⟨q57, h57, h⟩ := bnd h
    refine G_cVv (st := []) hC _ 83 (by omega) (c_X6_expect  l (by omega) e_text e_reader e_tbytes h57) (cwV 1 hC.hts gX6_readItem_X6_expect rfl rfl rfl (by decide +kernel) ⟨Nat.le_of_ble_eq_true rfl, Nat.le_of_ble_eq_true rfl⟩) e_reader rfl rfl (Nat.le_of_ble_eq_true rfl) (Nat.zero_le _) (Nat.zero_le _) rfl dX6_readItem_57 (fun en2 hw => ?_)
    obtain ⟨e_reader, fr⟩ := hw
    have e_text := (fr 81 (by omega)).trans e_text
    have e_tbytes := (fr 82 (by omega)).trans e_tbytes
    have e_rnumarr := (fr 95 (by omega)).trans e_rnumarr
    have H_draft := H_draft.fr (fun j h1 h2 => fr j (by omega))
    have hfr : ∀ j, (j < 83 ∨ 84 ≤ j) → (j < 95 ∨ 96 ≤ j) → (j < 84 ∨ 95 ≤ j) → en2 j = en j := fun j o0 o1 o2 => (fr j (by omega)).trans (hfr j o0 o1 o2)
    refine G_lv [0, 1] rfl ?_
    exact hB60 _ _ _ _ _ _ _ _ _ _ _ e_text e_reader e_tbytes e_rnumarr H_draft hfr h
  have hB28 : ∀ (en1 : Nat → va_E) (rkind : Int32) (rstart : Int32) (rbehind : Int32) (rname : Int64) (ritems : Int32) (rfault : Int32) (rrefused : Int32) (draft : HallV) (rnums : Nat → Int32) (x1 : Int32) (s1 : Int32), en1 81 = .inr (6, [.ref (ad 82), .int tlen]) → en1 83 = .inr (3, [.ref (ad 81), .ref (ad 84), .ref (ad 95), .int rkind, .int rstart, .int rbehind, .long rname, .int ritems, .int rfault, .int rrefused]) → en1 82 = .inl (cs 0, 300, .inl (tby)) → en1 95 = .inl (cs 1, 5, .inl (rnums)) → Hall cs ad en1 84 draft → (∀ j, (j < 83 ∨ 84 ≤ j) → (j < 95 ∨ 96 ≤ j) → (j < 84 ∨ 95 ≤ j) → en1 j = en j) → f_X6_readItem_B28 tlen tby rkind rstart rbehind rname ritems rfault rrefused draft rnums x1 s1 = some q → G p l e ({ frames := 6, cells := 0, slots := 0, locals := 128 } : Room) s m args below meth c D n ad A 3 0 0 Q en1 28 [(0, .ref (ad 83)), (1, .int x1)] [.int s1, .ref (ad 83)] := by
    intro en1 rkind rstart rbehind rname ritems rfault rrefused draft rnums x1 s1 e_text e_reader e_tbytes e_rnumarr H_draft hfr h
    unfold f_X6_readItem_B28 at h
    obtain ⟨q28, h28, h⟩ := bnd h
    refine G_cVv (st := []) hC _ 83 (by omega) (c_X6_expect  l (by omega) e_text e_reader e_tbytes h28) (cwV 1 hC.hts gX6_readItem_X6_expect rfl rfl rfl (by decide +kernel) ⟨Nat.le_of_ble_eq_true rfl, Nat.le_of_ble_eq_true rfl⟩) e_reader rfl rfl (Nat.le_of_ble_eq_true rfl) (Nat.zero_le _) (Nat.zero_le _) rfl dX6_readItem_28 (fun en2 hw => ?_)
    obtain ⟨e_reader, fr⟩ := hw
    have e_text := (fr 81 (by omega)).trans e_text
    have e_tbytes := (fr 82 (by omega)).trans e_tbytes
    have e_rnumarr := (fr 95 (by omega)).trans e_rnumarr
    have H_draft := H_draft.fr (fun j h1 h2 => fr j (by omega))
    have hfr : ∀ j, (j < 83 ∨ 84 ≤ j) → (j < 95 ∨ 96 ≤ j) → (j < 84 ∨ 95 ≤ j) → en2 j = en j := fun j o0 o1 o2 => (fr j (by omega)).trans (hfr j o0 o1 o2)
    refine G_iload_n hC 1 1 rfl rfl dX6_readItem_31 ?_
    refine G_if_ne hC 60 dX6_readItem_32 (by decide) (fun c32 => ?_) (fun c32 => ?_)
    · have h := ifn c32 h
      refine G_lv [0, 1] rfl ?_
      exact hB60 _ _ _ _ _ _ _ _ _ _ _ e_text e_reader e_tbytes e_rnumarr H_draft hfr h
    have h := ifp c32 h
    refine G_aload_n hC 0 0 rfl rfl dX6_readItem_35 ?_
    refine G_aload_n hC 0 0 rfl rfl dX6_readItem_36 ?_
    obtain ⟨q37, h37, h⟩ := bnd h
    refine G_cVl (st := [.ref (ad 83)]) hC _ 83 (by omega) (c_X6_wordAsName  l (by omega) e_text e_reader e_tbytes h37) (cwV 0 hC.hts gX6_readItem_X6_wordAsName rfl rfl rfl (by decide +kernel) ⟨Nat.le_of_ble_eq_true rfl, Nat.le_of_ble_eq_true rfl⟩) e_reader rfl rfl (Nat.le_of_ble_eq_true rfl) (Nat.zero_le _) (Nat.zero_le _) rfl dX6_readItem_37 (fun r37 enx hw => ?_)
    obtain ⟨rfl, rfl⟩ := hw
    refine G_put hC inX6 tyX6 tyX6_ok nmX6 83 (by omega) e_reader rfl 6 (by decide) m69 rfl rfl (ty := .long) rfl rfl rfl (Nat.le_of_ble_eq_true rfl) dX6_readItem_40 (fun en3 e_reader fr => ?_)
    have e_reader : en3 83 = .inr (3, [.ref (ad 81), .ref (ad 84), .ref (ad 95), .int q28.1, .int q28.2.1, .int q28.2.2.1, .long q37, .int ritems, .int q28.2.2.2, .int rrefused]) := e_reader
    have e_text := (fr 81 (by omega)).trans e_text
    have e_tbytes := (fr 82 (by omega)).trans e_tbytes
    have e_rnumarr := (fr 95 (by omega)).trans e_rnumarr
    have H_draft := H_draft.fr (fun j h1 h2 => fr j (by omega))
    have hfr : ∀ j, (j < 83 ∨ 84 ≤ j) → (j < 95 ∨ 96 ≤ j) → (j < 84 ∨ 95 ≤ j) → en3 j = en j := fun j o0 o1 o2 => (fr j (by omega)).trans (hfr j o0 o1 o2)
    refine G_aload_n hC 0 0 rfl rfl dX6_readItem_43 ?_
    refine G_aload_n hC 0 0 rfl rfl dX6_readItem_44 ?_
    refine G_get hC inX6 83 (by omega) (v := .int q28.1) e_reader rfl 3 (by decide) m47 rfl rfl dX6_readItem_45 ?_
    refine G_iconst hC (v := 1) (by decide) dX6_readItem_48 ?_
    refine G_icmp_ne hC 56 dX6_readItem_49 (by decide) (fun c49 => ?_) (fun c49 => ?_)
    · have h := ifn c49 h
      refine G_iconst hC (v := 0) (by decide) dX6_readItem_56 ?_
      refine G_lv [0, 1] rfl ?_
      exact hB57 _ _ _ _ _ _ _ _ _ _ _ _ e_text e_reader e_tbytes e_rnumarr H_draft hfr h
    have h := ifp c49 h
    refine G_iconst hC (v := 1) (by decide) dX6_readItem_52 ?_
    refine G_goto hC 57 dX6_readItem_53 (by decide) ?_
    refine G_lv [0, 1] rfl ?_
    exact hB57 _ _ _ _ _ _ _ _ _ _ _ _ e_text e_reader e_tbytes e_rnumarr H_draft hfr h
  have hB16 : ∀ (en1 : Nat → va_E) (rkind : Int32) (rstart : Int32) (rbehind : Int32) (rname : Int64) (ritems : Int32) (rfault : Int32) (rrefused : Int32) (draft : HallV) (rnums : Nat → Int32) (s0 : Int32), en1 81 = .inr (6, [.ref (ad 82), .int tlen]) → en1 83 = .inr (3, [.ref (ad 81), .ref (ad 84), .ref (ad 95), .int rkind, .int rstart, .int rbehind, .long rname, .int ritems, .int rfault, .int rrefused]) → en1 82 = .inl (cs 0, 300, .inl (tby)) → en1 95 = .inl (cs 1, 5, .inl (rnums)) → Hall cs ad en1 84 draft → (∀ j, (j < 83 ∨ 84 ≤ j) → (j < 95 ∨ 96 ≤ j) → (j < 84 ∨ 95 ≤ j) → en1 j = en j) → f_X6_readItem_B16 tlen tby rkind rstart rbehind rname ritems rfault rrefused draft rnums s0 = some q → G p l e ({ frames := 6, cells := 0, slots := 0, locals := 128 } : Room) s m args below meth c D n ad A 3 0 0 Q en1 16 [(0, .ref (ad 83))] [.int s0] := by
    intro en1 rkind rstart rbehind rname ritems rfault rrefused draft rnums s0 e_text e_reader e_tbytes e_rnumarr H_draft hfr h
    unfold f_X6_readItem_B16 at h
    refine G_istore_n hC 1 [(1, .int s0), (0, .ref (ad 83))] rfl (by decide) rfl dX6_readItem_16 ?_
    refine G_aload_n hC 0 1 rfl rfl dX6_readItem_17 ?_
    refine G_iload_n hC 1 0 rfl rfl dX6_readItem_18 ?_
    refine G_iconst hC (v := (-1)) (by decide) dX6_readItem_19 ?_
    refine G_icmp_eq hC 27 dX6_readItem_20 (by decide) (fun c20 => ?_) (fun c20 => ?_)
    · have h := ifp c20 h
      refine G_iconst hC (v := 0) (by decide) dX6_readItem_27 ?_
      refine G_lv [1, 0] rfl ?_
      exact hB28 _ _ _ _ _ _ _ _ _ _ _ _ e_text e_reader e_tbytes e_rnumarr H_draft hfr h
    have h := ifn c20 h
    refine G_iconst hC (v := 1) (by decide) dX6_readItem_23 ?_
    refine G_goto hC 28 dX6_readItem_24 (by decide) ?_
    refine G_lv [1, 0] rfl ?_
    exact hB28 _ _ _ _ _ _ _ _ _ _ _ _ e_text e_reader e_tbytes e_rnumarr H_draft hfr h
  unfold f_X6_readItem at h
  have hfr : ∀ j, (j < 83 ∨ 84 ≤ j) → (j < 95 ∨ 96 ≤ j) → (j < 84 ∨ 95 ≤ j) → en j = en j := fun _ _ _ _ => rfl
  refine G_aload_n hC 0 0 rfl rfl dX6_readItem_0 ?_
  refine G_get hC inX6 83 (by omega) (v := .int rkind) e_reader rfl 3 (by decide) m47 rfl rfl dX6_readItem_1 ?_
  refine G_iconst hC (v := 1) (by decide) dX6_readItem_4 ?_
  refine G_icmp_ne hC 15 dX6_readItem_5 (by decide) (fun c5 => ?_) (fun c5 => ?_)
  · have h := ifn c5 h
    refine G_iconst hC (v := (-1)) (by decide) dX6_readItem_15 ?_
    refine G_lv [0] rfl ?_
    exact hB16 _ _ _ _ _ _ _ _ _ _ _ e_text e_reader e_tbytes e_rnumarr H_draft hfr h
  have h := ifp c5 h
  refine G_aload_n hC 0 0 rfl rfl dX6_readItem_8 ?_
  obtain ⟨q9, h9, h⟩ := bnd h
  refine G_cVi (st := []) hC _ 83 (by omega) (c_X6_whatItem  l (by omega) e_text e_reader e_tbytes h9) (cwV 0 hC.hts gX6_readItem_X6_whatItem rfl rfl rfl (by decide +kernel) ⟨Nat.le_of_ble_eq_true rfl, Nat.le_of_ble_eq_true rfl⟩) e_reader rfl rfl (Nat.le_of_ble_eq_true rfl) (Nat.zero_le _) (Nat.zero_le _) rfl dX6_readItem_9 (fun r9 enx hw => ?_)
  obtain ⟨rfl, rfl⟩ := hw
  refine G_goto hC 16 dX6_readItem_12 (by decide) ?_
  refine G_lv [0] rfl ?_
  exact hB16 _ _ _ _ _ _ _ _ _ _ _ e_text e_reader e_tbytes e_rnumarr H_draft hfr h
def f_X6_readInto_B65 (tlen : Int32) (tby : Nat → Int32)  (now : HallV) (rkind : Int32) (rstart : Int32) (rbehind : Int32) (rname : Int64) (ritems : Int32) (rfault : Int32) (rrefused : Int32) (draft : HallV) (rnums : Nat → Int32) : Option (Int32 × HallV × Int32 × Int32 × Int32 × Int64 × Int32 × Int32 × Int32 × HallV × (Nat → Int32)) := if rfault = (-1 : Int32) then (if rrefused = (-1 : Int32) then (Option.bind (f_X1_become now draft) (fun q103 => some (ritems, q103, rkind, rstart, rbehind, rname, ritems, rfault, rrefused, draft, rnums))) else (some ((-1000 : Int32) - rrefused, now, rkind, rstart, rbehind, rname, ritems, rfault, rrefused, draft, rnums))) else (some ((-10 : Int32) - rfault, now, rkind, rstart, rbehind, rname, ritems, rfault, rrefused, draft, rnums))
def f_X6_readInto_L33 (tlen : Int32) (tby : Nat → Int32)  : Nat → HallV → Int32 → Int32 → Int32 → Int64 → Int32 → Int32 → Int32 → HallV → (Nat → Int32) → Int32 → Option (Int32 × HallV × Int32 × Int32 × Int32 × Int64 × Int32 × Int32 × Int32 × HallV × (Nat → Int32))
  | 0, _, _, _, _, _, _, _, _, _, _, _ => none
  | fu + 1, now, rkind, rstart, rbehind, rname, ritems, rfault, rrefused, draft, rnums, x2 => if (300 : Int32) ≤ x2 then (f_X6_readInto_B65 tlen tby now rkind rstart rbehind rname ritems rfault rrefused draft rnums) else (if rkind = 0 then (f_X6_readInto_B65 tlen tby now rkind rstart rbehind rname ritems rfault rrefused draft rnums) else (if rfault = (-1 : Int32) then (Option.bind (f_X6_readItem tlen tby rkind rstart rbehind rname ritems rfault rrefused draft rnums) (fun q56 => f_X6_readInto_L33 tlen tby fu now q56.1 q56.2.1 q56.2.2.1 q56.2.2.2.1 q56.2.2.2.2.1 q56.2.2.2.2.2.1 q56.2.2.2.2.2.2.1 q56.2.2.2.2.2.2.2.1 q56.2.2.2.2.2.2.2.2 (x2 + (1 : Int32)))) else (f_X6_readInto_B65 tlen tby now rkind rstart rbehind rname ritems rfault rrefused draft rnums)))
def f_X6_readInto (now : HallV) (tlen : Int32) (tby : Nat → Int32) (rkind : Int32) (rstart : Int32) (rbehind : Int32) (rname : Int64) (ritems : Int32) (rfault : Int32) (rrefused : Int32) (draft : HallV) (rnums : Nat → Int32)  : Option (Int32 × HallV × Int32 × Int32 × Int32 × Int64 × Int32 × Int32 × Int32 × HallV × (Nat → Int32)) := Option.bind (f_X1_begin draft) (fun q4 => Option.bind (f_X6_step tlen tby rkind rstart (0 : Int32)) (fun q28 => f_X6_readInto_L33 tlen tby FU now q28.1 q28.2.1 q28.2.2 rname (0 : Int32) (-1 : Int32) (-1 : Int32) q4 rnums (0 : Int32)))
set_option maxHeartbeats 4000000 in
set_option maxRecDepth 100000 in
theorem c_X6_readInto {D : va_G} {cs : Nat → ClassId} {sa : Nat → Nat} {n : Nat} {ad : Nat → Nat} {A : Nat → Prop} (l : Launch) {en : Nat → va_E}  {now : HallV} {tlen : Int32} {tby : Nat → Int32} {rkind : Int32} {rstart : Int32} {rbehind : Int32} {rname : Int64} {ritems : Int32} {rfault : Int32} {rrefused : Int32} {draft : HallV} {rnums : Nat → Int32}   {q : Int32 × HallV × Int32 × Int32 × Int32 × Int64 × Int32 × Int32 × Int32 × HallV × (Nat → Int32)} (hn : 110 ≤ n) (e_text : en 81 = .inr (6, [.ref (ad 82), .int tlen])) (e_reader : en 83 = .inr (3, [.ref (ad 81), .ref (ad 84), .ref (ad 95), .int rkind, .int rstart, .int rbehind, .long rname, .int ritems, .int rfault, .int rrefused])) (e_tbytes : en 82 = .inl (cs 0, 300, .inl (tby))) (e_rnumarr : en 95 = .inl (cs 1, 5, .inl (rnums))) (H_now : Hall cs ad en 1 now) (H_draft : Hall cs ad en 84 draft) (h : f_X6_readInto now tlen tby rkind rstart rbehind rname ritems rfault rrefused draft rnums = some q) : Met l yX6_readInto wsX6_readInto { frames := 7, cells := 0, slots := 0, locals := 150 } (va_Pc [.ref (ad 83), .ref (ad 1)] (Wd D cs sa n ad A en)) (va_Qi (fun r u => q.1 = r ∧ u 83 = .inr (3, [.ref (ad 81), .ref (ad 84), .ref (ad 95), .int q.2.2.1, .int q.2.2.2.1, .int q.2.2.2.2.1, .long q.2.2.2.2.2.1, .int q.2.2.2.2.2.2.1, .int q.2.2.2.2.2.2.2.1, .int q.2.2.2.2.2.2.2.2.1]) ∧ u 95 = .inl (cs 1, 5, .inl (q.2.2.2.2.2.2.2.2.2.2)) ∧ Hall cs ad u 1 q.2.1 ∧ Hall cs ad u 84 q.2.2.2.2.2.2.2.2.2.1 ∧ (∀ j, (j < 83 ∨ 84 ≤ j) → (j < 95 ∨ 96 ≤ j) → (j < 1 ∨ 12 ≤ j) → (j < 84 ∨ 95 ≤ j) → u j = en j)) (Wd D cs sa n ad A) A) 0 0 A := by
  refine G_startI cX6_readInto 3 [(0, .ref (ad 83)), (1, .ref (ad 1))] (by decide) rfl (Nat.le_of_ble_eq_true rfl) rfl ?_
  intro p e s m args below meth c Q hC hnm Kr
  have inX6 : ∀ w ∈ u_ws RX6 TX6 10, w ∈ wsX6_readInto := by decide +kernel
  have m18 : Cond.fieldLink RX6 18 "TongueTip$Reader" "draft" "LTongueTip$Hall;" ∈ wsX6_readInto := by decide +kernel
  have m29 : Cond.fieldLink RX6 29 "TongueTip$Reader" "behind" "I" ∈ wsX6_readInto := by decide +kernel
  have m33 : Cond.fieldLink RX6 33 "TongueTip$Reader" "items" "I" ∈ wsX6_readInto := by decide +kernel
  have m36 : Cond.fieldLink RX6 36 "TongueTip$Reader" "fault" "I" ∈ wsX6_readInto := by decide +kernel
  have m39 : Cond.fieldLink RX6 39 "TongueTip$Reader" "refused" "I" ∈ wsX6_readInto := by decide +kernel
  have m47 : Cond.fieldLink RX6 47 "TongueTip$Reader" "kind" "I" ∈ wsX6_readInto := by decide +kernel
  have hB65 : ∀ (en1 : Nat → va_E) (now : HallV) (rkind : Int32) (rstart : Int32) (rbehind : Int32) (rname : Int64) (ritems : Int32) (rfault : Int32) (rrefused : Int32) (draft : HallV) (rnums : Nat → Int32), en1 81 = .inr (6, [.ref (ad 82), .int tlen]) → en1 83 = .inr (3, [.ref (ad 81), .ref (ad 84), .ref (ad 95), .int rkind, .int rstart, .int rbehind, .long rname, .int ritems, .int rfault, .int rrefused]) → en1 82 = .inl (cs 0, 300, .inl (tby)) → en1 95 = .inl (cs 1, 5, .inl (rnums)) → Hall cs ad en1 1 now → Hall cs ad en1 84 draft → (∀ j, (j < 83 ∨ 84 ≤ j) → (j < 95 ∨ 96 ≤ j) → (j < 1 ∨ 12 ≤ j) → (j < 84 ∨ 95 ≤ j) → en1 j = en j) → f_X6_readInto_B65 tlen tby now rkind rstart rbehind rname ritems rfault rrefused draft rnums = some q → G p l e ({ frames := 7, cells := 0, slots := 0, locals := 150 } : Room) s m args below meth c D n ad A 3 0 0 Q en1 65 [(0, .ref (ad 83)), (1, .ref (ad 1))] [] := by
    intro en1 now rkind rstart rbehind rname ritems rfault rrefused draft rnums e_text e_reader e_tbytes e_rnumarr H_now H_draft hfr h
    unfold f_X6_readInto_B65 at h
    refine G_aload_n hC 0 0 rfl rfl dX6_readInto_65 ?_
    refine G_get hC inX6 83 (by omega) (v := .int rfault) e_reader rfl 8 (by decide) m36 rfl rfl dX6_readInto_66 ?_
    refine G_iconst hC (v := (-1)) (by decide) dX6_readInto_69 ?_
    refine G_icmp_eq hC 81 dX6_readInto_70 (by decide) (fun c70 => ?_) (fun c70 => ?_)
    · have h := ifp c70 h
      refine G_aload_n hC 0 0 rfl rfl dX6_readInto_81 ?_
      refine G_get hC inX6 83 (by omega) (v := .int rrefused) e_reader rfl 9 (by decide) m39 rfl rfl dX6_readInto_82 ?_
      refine G_iconst hC (v := (-1)) (by decide) dX6_readInto_85 ?_
      refine G_icmp_eq hC 98 dX6_readInto_86 (by decide) (fun c86 => ?_) (fun c86 => ?_)
      · have h := ifp c86 h
        refine G_aload_n hC 1 1 rfl rfl dX6_readInto_98 ?_
        refine G_aload_n hC 0 0 rfl rfl dX6_readInto_99 ?_
        refine G_get hC inX6 83 (by omega) (v := .ref (ad 84)) e_reader rfl 1 (by decide) m18 rfl rfl dX6_readInto_100 ?_
        obtain ⟨q103, h103, h⟩ := bnd h
        refine G_cVv (st := []) hC _ 1 (by omega) (c_X1_become (kk := 1) (kk2 := 84) l (by omega) (by omega) (by omega) H_now H_draft h103) (cwV 1 hC.hts gX6_readInto_X1_become rfl rfl rfl (by decide +kernel) ⟨Nat.le_of_ble_eq_true rfl, Nat.le_of_ble_eq_true rfl⟩) (H_now 0 (by decide)) rfl rfl (Nat.le_of_ble_eq_true rfl) (Nat.zero_le _) (Nat.zero_le _) rfl dX6_readInto_103 (fun en2 hw => ?_)
        obtain ⟨H_now, fr⟩ := hw
        have e_text := (fr 81 (by omega)).trans e_text
        have e_reader := (fr 83 (by omega)).trans e_reader
        have e_tbytes := (fr 82 (by omega)).trans e_tbytes
        have e_rnumarr := (fr 95 (by omega)).trans e_rnumarr
        have H_draft := H_draft.fr (fun j h1 h2 => fr j (by omega))
        have hfr : ∀ j, (j < 83 ∨ 84 ≤ j) → (j < 95 ∨ 96 ≤ j) → (j < 1 ∨ 12 ≤ j) → (j < 84 ∨ 95 ≤ j) → en2 j = en j := fun j o0 o1 o2 o3 => (fr j (by omega)).trans (hfr j o0 o1 o2 o3)
        refine G_aload_n hC 0 0 rfl rfl dX6_readInto_106 ?_
        refine G_get hC inX6 83 (by omega) (v := .int ritems) e_reader rfl 7 (by decide) m33 rfl rfl dX6_readInto_107 ?_
        have h := Option.some.inj h
        subst h
        exact Kr _ _ _ _ (nar_i _) ⟨rfl, e_reader, e_rnumarr, H_now, H_draft, hfr⟩ dX6_readInto_110
      have h := ifn c86 h
      refine G_sipush hC (v := (-1000)) (by decide) dX6_readInto_89 ?_
      refine G_aload_n hC 0 0 rfl rfl dX6_readInto_92 ?_
      refine G_get hC inX6 83 (by omega) (v := .int rrefused) e_reader rfl 9 (by decide) m39 rfl rfl dX6_readInto_93 ?_
      refine G_isub hC dX6_readInto_96 ?_
      have h := Option.some.inj h
      subst h
      exact Kr _ _ _ _ (nar_i _) ⟨rfl, e_reader, e_rnumarr, H_now, H_draft, hfr⟩ dX6_readInto_97
    have h := ifn c70 h
    refine G_bipush hC (v := (-10)) (by decide) dX6_readInto_73 ?_
    refine G_aload_n hC 0 0 rfl rfl dX6_readInto_75 ?_
    refine G_get hC inX6 83 (by omega) (v := .int rfault) e_reader rfl 8 (by decide) m36 rfl rfl dX6_readInto_76 ?_
    refine G_isub hC dX6_readInto_79 ?_
    have h := Option.some.inj h
    subst h
    exact Kr _ _ _ _ (nar_i _) ⟨rfl, e_reader, e_rnumarr, H_now, H_draft, hfr⟩ dX6_readInto_80
  have hL33 : ∀ (fu33 : Nat), ∀ (en1 : Nat → va_E) (now : HallV) (rkind : Int32) (rstart : Int32) (rbehind : Int32) (rname : Int64) (ritems : Int32) (rfault : Int32) (rrefused : Int32) (draft : HallV) (rnums : Nat → Int32) (x2 : Int32), en1 81 = .inr (6, [.ref (ad 82), .int tlen]) → en1 83 = .inr (3, [.ref (ad 81), .ref (ad 84), .ref (ad 95), .int rkind, .int rstart, .int rbehind, .long rname, .int ritems, .int rfault, .int rrefused]) → en1 82 = .inl (cs 0, 300, .inl (tby)) → en1 95 = .inl (cs 1, 5, .inl (rnums)) → Hall cs ad en1 1 now → Hall cs ad en1 84 draft → (∀ j, (j < 83 ∨ 84 ≤ j) → (j < 95 ∨ 96 ≤ j) → (j < 1 ∨ 12 ≤ j) → (j < 84 ∨ 95 ≤ j) → en1 j = en j) → f_X6_readInto_L33 tlen tby fu33 now rkind rstart rbehind rname ritems rfault rrefused draft rnums x2 = some q → G p l e ({ frames := 7, cells := 0, slots := 0, locals := 150 } : Room) s m args below meth c D n ad A 3 0 0 Q en1 33 [(0, .ref (ad 83)), (1, .ref (ad 1)), (2, .int x2)] [] := by
    intro fu33
    induction fu33 with
    | zero =>
      intro en1 now rkind rstart rbehind rname ritems rfault rrefused draft rnums x2 e_text e_reader e_tbytes e_rnumarr H_now H_draft hfr h
      rw [f_X6_readInto_L33] at h
      cases h
    | succ fu33 ih33 =>
      intro en1 now rkind rstart rbehind rname ritems rfault rrefused draft rnums x2 e_text e_reader e_tbytes e_rnumarr H_now H_draft hfr h
      rw [f_X6_readInto_L33] at h
      refine G_iload_n hC 2 2 rfl rfl dX6_readInto_33 ?_
      refine G_sipush hC (v := 300) (by decide) dX6_readInto_34 ?_
      refine G_icmp_ge hC 65 dX6_readInto_37 (by decide) (fun c37 => ?_) (fun c37 => ?_)
      · have h := ifp c37 h
        refine G_lv [0, 1] rfl ?_
        exact hB65 _ _ _ _ _ _ _ _ _ _ _ e_text e_reader e_tbytes e_rnumarr H_now H_draft hfr h
      have h := ifn c37 h
      refine G_aload_n hC 0 0 rfl rfl dX6_readInto_40 ?_
      refine G_get hC inX6 83 (by omega) (v := .int rkind) e_reader rfl 3 (by decide) m47 rfl rfl dX6_readInto_41 ?_
      refine G_if_eq hC 65 dX6_readInto_44 (by decide) (fun c44 => ?_) (fun c44 => ?_)
      · have h := ifp c44 h
        refine G_lv [0, 1] rfl ?_
        exact hB65 _ _ _ _ _ _ _ _ _ _ _ e_text e_reader e_tbytes e_rnumarr H_now H_draft hfr h
      have h := ifn c44 h
      refine G_aload_n hC 0 0 rfl rfl dX6_readInto_47 ?_
      refine G_get hC inX6 83 (by omega) (v := .int rfault) e_reader rfl 8 (by decide) m36 rfl rfl dX6_readInto_48 ?_
      refine G_iconst hC (v := (-1)) (by decide) dX6_readInto_51 ?_
      refine G_icmp_ne hC 65 dX6_readInto_52 (by decide) (fun c52 => ?_) (fun c52 => ?_)
      · have h := ifn c52 h
        refine G_lv [0, 1] rfl ?_
        exact hB65 _ _ _ _ _ _ _ _ _ _ _ e_text e_reader e_tbytes e_rnumarr H_now H_draft hfr h
      have h := ifp c52 h
      refine G_aload_n hC 0 0 rfl rfl dX6_readInto_55 ?_
      obtain ⟨q56, h56, h⟩ := bnd h
      refine G_cVv (st := []) hC _ 83 (by omega) (c_X6_readItem  l (by omega) e_text e_reader e_tbytes e_rnumarr H_draft h56) (cwV 0 hC.hts gX6_readInto_X6_readItem rfl rfl rfl (by decide +kernel) ⟨Nat.le_of_ble_eq_true rfl, Nat.le_of_ble_eq_true rfl⟩) e_reader rfl rfl (Nat.le_of_ble_eq_true rfl) (Nat.zero_le _) (Nat.zero_le _) rfl dX6_readInto_56 (fun en2 hw => ?_)
      obtain ⟨e_reader, e_rnumarr, H_draft, fr⟩ := hw
      have e_text := (fr 81 (by omega) (by omega) (by omega)).trans e_text
      have e_tbytes := (fr 82 (by omega) (by omega) (by omega)).trans e_tbytes
      have H_now := H_now.fr (fun j h1 h2 => fr j (by omega) (by omega) (by omega))
      have hfr : ∀ j, (j < 83 ∨ 84 ≤ j) → (j < 95 ∨ 96 ≤ j) → (j < 1 ∨ 12 ≤ j) → (j < 84 ∨ 95 ≤ j) → en2 j = en j := fun j o0 o1 o2 o3 => (fr j (by omega) (by omega) (by omega)).trans (hfr j o0 o1 o2 o3)
      refine G_iinc hC 2 2 [(2, .int (x2 + (1 : Int32))), (0, .ref (ad 83)), (1, .ref (ad 1))] rfl rfl (by decide) rfl dX6_readInto_59 ?_
      refine G_goto hC 33 dX6_readInto_62 (by decide) ?_
      refine G_lv [1, 2, 0] rfl ?_
      exact ih33 _ _ _ _ _ _ _ _ _ _ _ _ e_text e_reader e_tbytes e_rnumarr H_now H_draft hfr h
  unfold f_X6_readInto at h
  have hfr : ∀ j, (j < 83 ∨ 84 ≤ j) → (j < 95 ∨ 96 ≤ j) → (j < 1 ∨ 12 ≤ j) → (j < 84 ∨ 95 ≤ j) → en j = en j := fun _ _ _ _ _ => rfl
  refine G_aload_n hC 0 0 rfl rfl dX6_readInto_0 ?_
  refine G_get hC inX6 83 (by omega) (v := .ref (ad 84)) e_reader rfl 1 (by decide) m18 rfl rfl dX6_readInto_1 ?_
  obtain ⟨q4, h4, h⟩ := bnd h
  refine G_cVv (st := []) hC _ 84 (by omega) (c_X1_begin (kk := 84) l (by omega) H_draft h4) (cwV 0 hC.hts gX6_readInto_X1_begin rfl rfl rfl (by decide +kernel) ⟨Nat.le_of_ble_eq_true rfl, Nat.le_of_ble_eq_true rfl⟩) (H_draft 0 (by decide)) rfl rfl (Nat.le_of_ble_eq_true rfl) (Nat.zero_le _) (Nat.zero_le _) rfl dX6_readInto_4 (fun en2 hw => ?_)
  obtain ⟨H_draft, fr⟩ := hw
  have e_text := (fr 81 (by omega)).trans e_text
  have e_reader := (fr 83 (by omega)).trans e_reader
  have e_tbytes := (fr 82 (by omega)).trans e_tbytes
  have e_rnumarr := (fr 95 (by omega)).trans e_rnumarr
  have H_now := H_now.fr (fun j h1 h2 => fr j (by omega))
  have hfr : ∀ j, (j < 83 ∨ 84 ≤ j) → (j < 95 ∨ 96 ≤ j) → (j < 1 ∨ 12 ≤ j) → (j < 84 ∨ 95 ≤ j) → en2 j = en j := fun j o0 o1 o2 o3 => (fr j (by omega)).trans (hfr j o0 o1 o2 o3)
  refine G_aload_n hC 0 0 rfl rfl dX6_readInto_7 ?_
  refine G_iconst hC (v := 0) (by decide) dX6_readInto_8 ?_
  refine G_put hC inX6 tyX6 tyX6_ok nmX6 83 (by omega) e_reader rfl 5 (by decide) m29 rfl rfl (ty := .int) rfl rfl rfl (Nat.le_of_ble_eq_true rfl) dX6_readInto_9 (fun en3 e_reader fr => ?_)
  have e_reader : en3 83 = .inr (3, [.ref (ad 81), .ref (ad 84), .ref (ad 95), .int rkind, .int rstart, .int (0 : Int32), .long rname, .int ritems, .int rfault, .int rrefused]) := e_reader
  have e_text := (fr 81 (by omega)).trans e_text
  have e_tbytes := (fr 82 (by omega)).trans e_tbytes
  have e_rnumarr := (fr 95 (by omega)).trans e_rnumarr
  have H_now := H_now.fr (fun j h1 h2 => fr j (by omega))
  have H_draft := H_draft.fr (fun j h1 h2 => fr j (by omega))
  have hfr : ∀ j, (j < 83 ∨ 84 ≤ j) → (j < 95 ∨ 96 ≤ j) → (j < 1 ∨ 12 ≤ j) → (j < 84 ∨ 95 ≤ j) → en3 j = en j := fun j o0 o1 o2 o3 => (fr j (by omega)).trans (hfr j o0 o1 o2 o3)
  refine G_aload_n hC 0 0 rfl rfl dX6_readInto_12 ?_
  refine G_iconst hC (v := 0) (by decide) dX6_readInto_13 ?_
  refine G_put hC inX6 tyX6 tyX6_ok nmX6 83 (by omega) e_reader rfl 7 (by decide) m33 rfl rfl (ty := .int) rfl rfl rfl (Nat.le_of_ble_eq_true rfl) dX6_readInto_14 (fun en4 e_reader fr => ?_)
  have e_reader : en4 83 = .inr (3, [.ref (ad 81), .ref (ad 84), .ref (ad 95), .int rkind, .int rstart, .int (0 : Int32), .long rname, .int (0 : Int32), .int rfault, .int rrefused]) := e_reader
  have e_text := (fr 81 (by omega)).trans e_text
  have e_tbytes := (fr 82 (by omega)).trans e_tbytes
  have e_rnumarr := (fr 95 (by omega)).trans e_rnumarr
  have H_now := H_now.fr (fun j h1 h2 => fr j (by omega))
  have H_draft := H_draft.fr (fun j h1 h2 => fr j (by omega))
  have hfr : ∀ j, (j < 83 ∨ 84 ≤ j) → (j < 95 ∨ 96 ≤ j) → (j < 1 ∨ 12 ≤ j) → (j < 84 ∨ 95 ≤ j) → en4 j = en j := fun j o0 o1 o2 o3 => (fr j (by omega)).trans (hfr j o0 o1 o2 o3)
  refine G_aload_n hC 0 0 rfl rfl dX6_readInto_17 ?_
  refine G_iconst hC (v := (-1)) (by decide) dX6_readInto_18 ?_
  refine G_put hC inX6 tyX6 tyX6_ok nmX6 83 (by omega) e_reader rfl 8 (by decide) m36 rfl rfl (ty := .int) rfl rfl rfl (Nat.le_of_ble_eq_true rfl) dX6_readInto_19 (fun en5 e_reader fr => ?_)
  have e_reader : en5 83 = .inr (3, [.ref (ad 81), .ref (ad 84), .ref (ad 95), .int rkind, .int rstart, .int (0 : Int32), .long rname, .int (0 : Int32), .int (-1 : Int32), .int rrefused]) := e_reader
  have e_text := (fr 81 (by omega)).trans e_text
  have e_tbytes := (fr 82 (by omega)).trans e_tbytes
  have e_rnumarr := (fr 95 (by omega)).trans e_rnumarr
  have H_now := H_now.fr (fun j h1 h2 => fr j (by omega))
  have H_draft := H_draft.fr (fun j h1 h2 => fr j (by omega))
  have hfr : ∀ j, (j < 83 ∨ 84 ≤ j) → (j < 95 ∨ 96 ≤ j) → (j < 1 ∨ 12 ≤ j) → (j < 84 ∨ 95 ≤ j) → en5 j = en j := fun j o0 o1 o2 o3 => (fr j (by omega)).trans (hfr j o0 o1 o2 o3)
  refine G_aload_n hC 0 0 rfl rfl dX6_readInto_22 ?_
  refine G_iconst hC (v := (-1)) (by decide) dX6_readInto_23 ?_
  refine G_put hC inX6 tyX6 tyX6_ok nmX6 83 (by omega) e_reader rfl 9 (by decide) m39 rfl rfl (ty := .int) rfl rfl rfl (Nat.le_of_ble_eq_true rfl) dX6_readInto_24 (fun en6 e_reader fr => ?_)
  have e_reader : en6 83 = .inr (3, [.ref (ad 81), .ref (ad 84), .ref (ad 95), .int rkind, .int rstart, .int (0 : Int32), .long rname, .int (0 : Int32), .int (-1 : Int32), .int (-1 : Int32)]) := e_reader
  have e_text := (fr 81 (by omega)).trans e_text
  have e_tbytes := (fr 82 (by omega)).trans e_tbytes
  have e_rnumarr := (fr 95 (by omega)).trans e_rnumarr
  have H_now := H_now.fr (fun j h1 h2 => fr j (by omega))
  have H_draft := H_draft.fr (fun j h1 h2 => fr j (by omega))
  have hfr : ∀ j, (j < 83 ∨ 84 ≤ j) → (j < 95 ∨ 96 ≤ j) → (j < 1 ∨ 12 ≤ j) → (j < 84 ∨ 95 ≤ j) → en6 j = en j := fun j o0 o1 o2 o3 => (fr j (by omega)).trans (hfr j o0 o1 o2 o3)
  refine G_aload_n hC 0 0 rfl rfl dX6_readInto_27 ?_
  obtain ⟨q28, h28, h⟩ := bnd h
  refine G_cVv (st := []) hC _ 83 (by omega) (c_X6_step  l (by omega) e_text e_reader e_tbytes h28) (cwV 0 hC.hts gX6_readInto_X6_step rfl rfl rfl (by decide +kernel) ⟨Nat.le_of_ble_eq_true rfl, Nat.le_of_ble_eq_true rfl⟩) e_reader rfl rfl (Nat.le_of_ble_eq_true rfl) (Nat.zero_le _) (Nat.zero_le _) rfl dX6_readInto_28 (fun en7 hw => ?_)
  obtain ⟨e_reader, fr⟩ := hw
  have e_text := (fr 81 (by omega)).trans e_text
  have e_tbytes := (fr 82 (by omega)).trans e_tbytes
  have e_rnumarr := (fr 95 (by omega)).trans e_rnumarr
  have H_now := H_now.fr (fun j h1 h2 => fr j (by omega))
  have H_draft := H_draft.fr (fun j h1 h2 => fr j (by omega))
  have hfr : ∀ j, (j < 83 ∨ 84 ≤ j) → (j < 95 ∨ 96 ≤ j) → (j < 1 ∨ 12 ≤ j) → (j < 84 ∨ 95 ≤ j) → en7 j = en j := fun j o0 o1 o2 o3 => (fr j (by omega)).trans (hfr j o0 o1 o2 o3)
  refine G_iconst hC (v := 0) (by decide) dX6_readInto_31 ?_
  refine G_istore_n hC 2 [(2, .int (0 : Int32)), (0, .ref (ad 83)), (1, .ref (ad 1))] rfl (by decide) rfl dX6_readInto_32 ?_
  refine G_lv [1, 2, 0] rfl ?_
  exact hL33 FU _ _ _ _ _ _ _ _ _ _ _ _ e_text e_reader e_tbytes e_rnumarr H_now H_draft hfr h
