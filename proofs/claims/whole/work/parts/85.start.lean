set_option maxHeartbeats 4000000 in
set_option maxRecDepth 100000 in
theorem start_K {s : State} {b : Nat} (hts : ∀ w ∈ lw_tbl, w.before #[Value.ref b] s = true) : ∃ (D : va_G) (cs : Nat → ClassId), va_K D vwCl (tyL cs) s := by
  obtain ⟨c0, i0, k0⟩ := u_known (C := RX1) (T := TX1) (N := 6) (n := 6) hts inX1 (hts (.instantiable RX1 6) (by decide +kernel))
  obtain ⟨c1, i1, k1⟩ := u_known (C := RX3) (T := TX3) (N := 2) (n := 2) hts inX3 (hts (.instantiable RX3 2) (by decide +kernel))
  obtain ⟨c2, i2, k2⟩ := u_known (C := RX5) (T := TX5) (N := 3) (n := 3) hts inX5 (hts (.instantiable RX5 3) (by decide +kernel))
  obtain ⟨c3, i3, k3⟩ := u_known (C := RX6) (T := TX6) (N := 10) (n := 10) hts inX6 (hts (.instantiable RX6 10) (by decide +kernel))
  obtain ⟨c4, i4, k4⟩ := u_known (C := RX7) (T := TX7) (N := 7) (n := 7) hts inX7 (hts (.instantiable RX7 7) (by decide +kernel))
  obtain ⟨c5, i5, k5⟩ := u_known (C := RX8) (T := TX8) (N := 4) (n := 4) hts inX8 (hts (.instantiable RX8 4) (by decide +kernel))
  obtain ⟨c6, i6, k6⟩ := u_known (C := RX9) (T := TX9) (N := 2) (n := 2) hts inX9 (hts (.instantiable RX9 2) (by decide +kernel))
  obtain ⟨c7, i7, k7⟩ := u_known (C := RX10) (T := TX10) (N := 13) (n := 13) hts inX10 (hts (.instantiable RX10 13) (by decide +kernel))
  obtain ⟨c8, i8, k8⟩ := u_known (C := RX11) (T := TX11) (N := 20) (n := 20) hts inX11 (hts (.instantiable RX11 20) (by decide +kernel))
  have arr : ∀ ty : FieldType, (Cond.arrayClass ty).before #[Value.ref b] s = true → ∃ cA, ArrOfT s cA ty ∧ s.vm.findClass ("[" ++ ty.toString) = some cA := by
    intro ty h
    obtain ⟨c, k, comp, h1, h2, h3⟩ := Cond.arrayClass_spec h
    exact ⟨c, fun n z => ⟨fun k h => (by cases h), k, h2, comp, h3⟩, h1⟩
  obtain ⟨a0, ha0, hb0⟩ := arr .byte (hts (.arrayClass .byte) (by decide +kernel))
  obtain ⟨a1, ha1, hb1⟩ := arr .int (hts (.arrayClass .int) (by decide +kernel))
  obtain ⟨a2, ha2, hb2⟩ := arr .long (hts (.arrayClass .long) (by decide +kernel))
  obtain ⟨a3, ha3, hb3⟩ := arr .boolean (hts (.arrayClass .boolean) (by decide +kernel))
  have hO : (Cond.arrayOver (.object "TongueTip$Hall")).before #[Value.ref b] s = true := hts _ (by decide +kernel)
  obtain ⟨comp, a4, kA, f1, _, f2, f3, f4⟩ := Cond.arrayOver_spec hO
  refine ⟨(fun k => if k = 0 then c0 else if k = 1 then c1 else if k = 2 then c2 else if k = 3 then c3 else if k = 4 then c4 else if k = 5 then c5 else if k = 6 then c6 else if k = 7 then c7 else c8, fun k => if k = 0 then i0 else if k = 1 then i1 else if k = 2 then i2 else if k = 3 then i3 else if k = 4 then i4 else if k = 5 then i5 else if k = 6 then i6 else if k = 7 then i7 else i8), fun k => if k = 0 then a0 else if k = 1 then a1 else if k = 2 then a2 else if k = 3 then a3 else a4, ?_, ?_⟩
  · intro k q hq
    match k, hq with
    | 0, hq => cases hq; exact k0
    | 1, hq => cases hq; exact k1
    | 2, hq => cases hq; exact k2
    | 3, hq => cases hq; exact k3
    | 4, hq => cases hq; exact k4
    | 5, hq => cases hq; exact k5
    | 6, hq => cases hq; exact k6
    | 7, hq => cases hq; exact k7
    | 8, hq => cases hq; exact k8
    | k + 9, hq => simp [vwCl] at hq
  · intro k q hq
    match k, hq with
    | 0, hq => cases hq; exact ⟨ha0, hb0⟩
    | 1, hq => cases hq; exact ⟨ha1, hb1⟩
    | 2, hq => cases hq; exact ⟨ha2, hb2⟩
    | 3, hq => cases hq; exact ⟨ha3, hb3⟩
    | 4, hq => cases hq; exact ⟨fun n z => ⟨fun k h => (by cases h), kA, f2, comp, f3⟩, kA, comp, f2, f3, f1, f4⟩
    | k + 5, hq => simp [tyL] at hq
theorem vk_S_congr {N : Nat} {len : List Nat} {byt : List (List Int32)} {adK adV adK' adV' : Nat → Nat} {A : Nat → Prop} {U : State} {H : Heap} (h : vk_S N len byt adK adV A U H) (h1 : ∀ i, i < N → adK' i = adK i) (h2 : ∀ i, i < N → adV' i = adV i) : vk_S N len byt adK' adV' A U H :=
  ⟨fun i hi => by rw [h1 i hi, h2 i hi]; exact h.1 i hi, fun i j hi hj e => h.2 i j hi hj (by rw [← h1 i hi, ← h1 j hj]; exact e)⟩
set_option maxHeartbeats 4000000 in
set_option maxRecDepth 100000 in
theorem start_Sx {s : State} {b : Nat} (hts : ∀ w ∈ lw_tbl, w.before #[Value.ref b] s = true) (hgv : (Jvm.Cond.and given_1 narrow_1).before #[Value.ref b] s = true) : ∃ sa : Nat → Nat, Sx sa (fun q => s.heap.size ≤ q) s s.heap := by
  have hs := flat_of_before _ hgv
  have hA : ∀ a : Nat, a < s.heap.size → ¬ (fun q => s.heap.size ≤ q) a := fun a h => Nat.not_le.mpr h
  obtain ⟨t0, ht0, hT0⟩ := va_Tof (args := #[Value.ref b]) (s := s) (tm := .static "TongueTip$Hall" "SETTING_FIRST" "[I") (ty := .int) (N := 8) (f := fun j => .int (([0, 7, 0, 3, 6, 8, 9, 10] : List Int32).getD j 0)) (A := fun q => s.heap.size ≤ q) (by decide) (hs (.arrayOf (.static "TongueTip$Hall" "SETTING_FIRST" "[I") .int) (by decide +kernel)) (va_eqt (hs (.eq (.length (.static "TongueTip$Hall" "SETTING_FIRST" "[I")) (.int 8)) (by decide +kernel))) (fun j hj => by
    match j, hj with
    | 0, _ => exact va_eqt (hs (.eq (.elem (.static "TongueTip$Hall" "SETTING_FIRST" "[I") (.int 0)) (.int 0)) (by decide +kernel))
    | 1, _ => exact va_eqt (hs (.eq (.elem (.static "TongueTip$Hall" "SETTING_FIRST" "[I") (.int 1)) (.int 7)) (by decide +kernel))
    | 2, _ => exact va_eqt (hs (.eq (.elem (.static "TongueTip$Hall" "SETTING_FIRST" "[I") (.int 2)) (.int 0)) (by decide +kernel))
    | 3, _ => exact va_eqt (hs (.eq (.elem (.static "TongueTip$Hall" "SETTING_FIRST" "[I") (.int 3)) (.int 3)) (by decide +kernel))
    | 4, _ => exact va_eqt (hs (.eq (.elem (.static "TongueTip$Hall" "SETTING_FIRST" "[I") (.int 4)) (.int 6)) (by decide +kernel))
    | 5, _ => exact va_eqt (hs (.eq (.elem (.static "TongueTip$Hall" "SETTING_FIRST" "[I") (.int 5)) (.int 8)) (by decide +kernel))
    | 6, _ => exact va_eqt (hs (.eq (.elem (.static "TongueTip$Hall" "SETTING_FIRST" "[I") (.int 6)) (.int 9)) (by decide +kernel))
    | 7, _ => exact va_eqt (hs (.eq (.elem (.static "TongueTip$Hall" "SETTING_FIRST" "[I") (.int 7)) (.int 10)) (by decide +kernel))) hA
  have hZ0 := va_Zof (A := fun q => s.heap.size ≤ q) (hts (.laysStatic "TongueTip$Hall" "SETTING_FIRST" "[I") (by decide +kernel)) (hts (.initialized "TongueTip$Hall") (by decide +kernel)) ht0 hA
  obtain ⟨t1, ht1, hT1⟩ := va_Tof (args := #[Value.ref b]) (s := s) (tm := .static "TongueTip$Hall" "SETTING_LEAST" "[I") (ty := .int) (N := 8) (f := fun j => .int (([0, 1, 0, 0, 0, 0, 0, 0] : List Int32).getD j 0)) (A := fun q => s.heap.size ≤ q) (by decide) (hs (.arrayOf (.static "TongueTip$Hall" "SETTING_LEAST" "[I") .int) (by decide +kernel)) (va_eqt (hs (.eq (.length (.static "TongueTip$Hall" "SETTING_LEAST" "[I")) (.int 8)) (by decide +kernel))) (fun j hj => by
    match j, hj with
    | 0, _ => exact va_eqt (hs (.eq (.elem (.static "TongueTip$Hall" "SETTING_LEAST" "[I") (.int 0)) (.int 0)) (by decide +kernel))
    | 1, _ => exact va_eqt (hs (.eq (.elem (.static "TongueTip$Hall" "SETTING_LEAST" "[I") (.int 1)) (.int 1)) (by decide +kernel))
    | 2, _ => exact va_eqt (hs (.eq (.elem (.static "TongueTip$Hall" "SETTING_LEAST" "[I") (.int 2)) (.int 0)) (by decide +kernel))
    | 3, _ => exact va_eqt (hs (.eq (.elem (.static "TongueTip$Hall" "SETTING_LEAST" "[I") (.int 3)) (.int 0)) (by decide +kernel))
    | 4, _ => exact va_eqt (hs (.eq (.elem (.static "TongueTip$Hall" "SETTING_LEAST" "[I") (.int 4)) (.int 0)) (by decide +kernel))
    | 5, _ => exact va_eqt (hs (.eq (.elem (.static "TongueTip$Hall" "SETTING_LEAST" "[I") (.int 5)) (.int 0)) (by decide +kernel))
    | 6, _ => exact va_eqt (hs (.eq (.elem (.static "TongueTip$Hall" "SETTING_LEAST" "[I") (.int 6)) (.int 0)) (by decide +kernel))
    | 7, _ => exact va_eqt (hs (.eq (.elem (.static "TongueTip$Hall" "SETTING_LEAST" "[I") (.int 7)) (.int 0)) (by decide +kernel))) hA
  have hZ1 := va_Zof (A := fun q => s.heap.size ≤ q) (hts (.laysStatic "TongueTip$Hall" "SETTING_LEAST" "[I") (by decide +kernel)) (hts (.initialized "TongueTip$Hall") (by decide +kernel)) ht1 hA
  obtain ⟨t2, ht2, hT2⟩ := va_Tof (args := #[Value.ref b]) (s := s) (tm := .static "TongueTip$Hall" "SETTING_MOST" "[I") (ty := .int) (N := 8) (f := fun j => .int (([5, 99, 60, 20, 20, 20, 20, 20] : List Int32).getD j 0)) (A := fun q => s.heap.size ≤ q) (by decide) (hs (.arrayOf (.static "TongueTip$Hall" "SETTING_MOST" "[I") .int) (by decide +kernel)) (va_eqt (hs (.eq (.length (.static "TongueTip$Hall" "SETTING_MOST" "[I")) (.int 8)) (by decide +kernel))) (fun j hj => by
    match j, hj with
    | 0, _ => exact va_eqt (hs (.eq (.elem (.static "TongueTip$Hall" "SETTING_MOST" "[I") (.int 0)) (.int 5)) (by decide +kernel))
    | 1, _ => exact va_eqt (hs (.eq (.elem (.static "TongueTip$Hall" "SETTING_MOST" "[I") (.int 1)) (.int 99)) (by decide +kernel))
    | 2, _ => exact va_eqt (hs (.eq (.elem (.static "TongueTip$Hall" "SETTING_MOST" "[I") (.int 2)) (.int 60)) (by decide +kernel))
    | 3, _ => exact va_eqt (hs (.eq (.elem (.static "TongueTip$Hall" "SETTING_MOST" "[I") (.int 3)) (.int 20)) (by decide +kernel))
    | 4, _ => exact va_eqt (hs (.eq (.elem (.static "TongueTip$Hall" "SETTING_MOST" "[I") (.int 4)) (.int 20)) (by decide +kernel))
    | 5, _ => exact va_eqt (hs (.eq (.elem (.static "TongueTip$Hall" "SETTING_MOST" "[I") (.int 5)) (.int 20)) (by decide +kernel))
    | 6, _ => exact va_eqt (hs (.eq (.elem (.static "TongueTip$Hall" "SETTING_MOST" "[I") (.int 6)) (.int 20)) (by decide +kernel))
    | 7, _ => exact va_eqt (hs (.eq (.elem (.static "TongueTip$Hall" "SETTING_MOST" "[I") (.int 7)) (.int 20)) (by decide +kernel))) hA
  have hZ2 := va_Zof (A := fun q => s.heap.size ≤ q) (hts (.laysStatic "TongueTip$Hall" "SETTING_MOST" "[I") (by decide +kernel)) (hts (.initialized "TongueTip$Hall") (by decide +kernel)) ht2 hA
  obtain ⟨t3, ht3, hT3⟩ := va_Tof (args := #[Value.ref b]) (s := s) (tm := .static "TongueTip$Hall" "PART_LEAST" "[I") (ty := .int) (N := 5) (f := fun j => .int (([0, 1, 1, 0, 0] : List Int32).getD j 0)) (A := fun q => s.heap.size ≤ q) (by decide) (hs (.arrayOf (.static "TongueTip$Hall" "PART_LEAST" "[I") .int) (by decide +kernel)) (va_eqt (hs (.eq (.length (.static "TongueTip$Hall" "PART_LEAST" "[I")) (.int 5)) (by decide +kernel))) (fun j hj => by
    match j, hj with
    | 0, _ => exact va_eqt (hs (.eq (.elem (.static "TongueTip$Hall" "PART_LEAST" "[I") (.int 0)) (.int 0)) (by decide +kernel))
    | 1, _ => exact va_eqt (hs (.eq (.elem (.static "TongueTip$Hall" "PART_LEAST" "[I") (.int 1)) (.int 1)) (by decide +kernel))
    | 2, _ => exact va_eqt (hs (.eq (.elem (.static "TongueTip$Hall" "PART_LEAST" "[I") (.int 2)) (.int 1)) (by decide +kernel))
    | 3, _ => exact va_eqt (hs (.eq (.elem (.static "TongueTip$Hall" "PART_LEAST" "[I") (.int 3)) (.int 0)) (by decide +kernel))
    | 4, _ => exact va_eqt (hs (.eq (.elem (.static "TongueTip$Hall" "PART_LEAST" "[I") (.int 4)) (.int 0)) (by decide +kernel))) hA
  have hZ3 := va_Zof (A := fun q => s.heap.size ≤ q) (hts (.laysStatic "TongueTip$Hall" "PART_LEAST" "[I") (by decide +kernel)) (hts (.initialized "TongueTip$Hall") (by decide +kernel)) ht3 hA
  obtain ⟨t4, ht4, hT4⟩ := va_Tof (args := #[Value.ref b]) (s := s) (tm := .static "TongueTip$Hall" "PART_MOST" "[I") (ty := .int) (N := 5) (f := fun j => .int (([25, 7, 5, 5, 5] : List Int32).getD j 0)) (A := fun q => s.heap.size ≤ q) (by decide) (hs (.arrayOf (.static "TongueTip$Hall" "PART_MOST" "[I") .int) (by decide +kernel)) (va_eqt (hs (.eq (.length (.static "TongueTip$Hall" "PART_MOST" "[I")) (.int 5)) (by decide +kernel))) (fun j hj => by
    match j, hj with
    | 0, _ => exact va_eqt (hs (.eq (.elem (.static "TongueTip$Hall" "PART_MOST" "[I") (.int 0)) (.int 25)) (by decide +kernel))
    | 1, _ => exact va_eqt (hs (.eq (.elem (.static "TongueTip$Hall" "PART_MOST" "[I") (.int 1)) (.int 7)) (by decide +kernel))
    | 2, _ => exact va_eqt (hs (.eq (.elem (.static "TongueTip$Hall" "PART_MOST" "[I") (.int 2)) (.int 5)) (by decide +kernel))
    | 3, _ => exact va_eqt (hs (.eq (.elem (.static "TongueTip$Hall" "PART_MOST" "[I") (.int 3)) (.int 5)) (by decide +kernel))
    | 4, _ => exact va_eqt (hs (.eq (.elem (.static "TongueTip$Hall" "PART_MOST" "[I") (.int 4)) (.int 5)) (by decide +kernel))) hA
  have hZ4 := va_Zof (A := fun q => s.heap.size ≤ q) (hts (.laysStatic "TongueTip$Hall" "PART_MOST" "[I") (by decide +kernel)) (hts (.initialized "TongueTip$Hall") (by decide +kernel)) ht4 hA
  obtain ⟨t5, ht5, hT5⟩ := va_Tof (args := #[Value.ref b]) (s := s) (tm := .static "TongueTip$Reader" "NUMBERS" "[I") (ty := .int) (N := 5) (f := fun j => .int (([5, 3, 2, 1, 1] : List Int32).getD j 0)) (A := fun q => s.heap.size ≤ q) (by decide) (hs (.arrayOf (.static "TongueTip$Reader" "NUMBERS" "[I") .int) (by decide +kernel)) (va_eqt (hs (.eq (.length (.static "TongueTip$Reader" "NUMBERS" "[I")) (.int 5)) (by decide +kernel))) (fun j hj => by
    match j, hj with
    | 0, _ => exact va_eqt (hs (.eq (.elem (.static "TongueTip$Reader" "NUMBERS" "[I") (.int 0)) (.int 5)) (by decide +kernel))
    | 1, _ => exact va_eqt (hs (.eq (.elem (.static "TongueTip$Reader" "NUMBERS" "[I") (.int 1)) (.int 3)) (by decide +kernel))
    | 2, _ => exact va_eqt (hs (.eq (.elem (.static "TongueTip$Reader" "NUMBERS" "[I") (.int 2)) (.int 2)) (by decide +kernel))
    | 3, _ => exact va_eqt (hs (.eq (.elem (.static "TongueTip$Reader" "NUMBERS" "[I") (.int 3)) (.int 1)) (by decide +kernel))
    | 4, _ => exact va_eqt (hs (.eq (.elem (.static "TongueTip$Reader" "NUMBERS" "[I") (.int 4)) (.int 1)) (by decide +kernel))) hA
  have hZ5 := va_Zof (A := fun q => s.heap.size ≤ q) (hts (.laysStatic "TongueTip$Reader" "NUMBERS" "[I") (by decide +kernel)) (hts (.initialized "TongueTip$Reader") (by decide +kernel)) ht5 hA
  have hCS := va_Zof (A := fun q => s.heap.size ≤ q) (hts (.laysStatic "java/lang/String" "COMPACT_STRINGS" "Z") (by decide +kernel)) (hts (.initialized "java/lang/String") (by decide +kernel)) (va_eqt (hs (.eq (.static "java/lang/String" "COMPACT_STRINGS" "Z") (.int 1)) (by decide +kernel))) hA
  have hSI := va_Zqof (A := fun q => s.heap.size ≤ q) (hts (.laysStatic "jdk/internal/util/Preconditions" "SIOOBE_FORMATTER" "Ljava/util/function/BiFunction;") (by decide +kernel)) (hts (.initialized "jdk/internal/util/Preconditions") (by decide +kernel)) (hs (.isRef (.static "jdk/internal/util/Preconditions" "SIOOBE_FORMATTER" "Ljava/util/function/BiFunction;")) (by decide +kernel)) hA
  obtain ⟨adK, adV, hVS, hev⟩ := vk_Sof (args := #[Value.ref b]) (s := s) (N := 5) (tm := fun i => .string "TongueTip$Reader" (strL.getD i (0, "")).1) (len := strLen) (byt := strByt) (A := fun q => s.heap.size ≤ q)
    (by decide)
    (fun i hi => by match i, hi with | 0, _ => exact hs (.exactly (.string "TongueTip$Reader" 126) "java/lang/String") (by decide +kernel) | 1, _ => exact hs (.exactly (.string "TongueTip$Reader" 132) "java/lang/String") (by decide +kernel) | 2, _ => exact hs (.exactly (.string "TongueTip$Reader" 134) "java/lang/String") (by decide +kernel) | 3, _ => exact hs (.exactly (.string "TongueTip$Reader" 136) "java/lang/String") (by decide +kernel) | 4, _ => exact hs (.exactly (.string "TongueTip$Reader" 138) "java/lang/String") (by decide +kernel))
    (fun i hi => by match i, hi with | 0, _ => exact hs (.eq (.field (.string "TongueTip$Reader" 126) "java/lang/String" "coder" "B") (.int 0)) (by decide +kernel) | 1, _ => exact hs (.eq (.field (.string "TongueTip$Reader" 132) "java/lang/String" "coder" "B") (.int 0)) (by decide +kernel) | 2, _ => exact hs (.eq (.field (.string "TongueTip$Reader" 134) "java/lang/String" "coder" "B") (.int 0)) (by decide +kernel) | 3, _ => exact hs (.eq (.field (.string "TongueTip$Reader" 136) "java/lang/String" "coder" "B") (.int 0)) (by decide +kernel) | 4, _ => exact hs (.eq (.field (.string "TongueTip$Reader" 138) "java/lang/String" "coder" "B") (.int 0)) (by decide +kernel))
    (fun i hi => by match i, hi with | 0, _ => exact hs (.arrayOf (.field (.string "TongueTip$Reader" 126) "java/lang/String" "value" "[B") .byte) (by decide +kernel) | 1, _ => exact hs (.arrayOf (.field (.string "TongueTip$Reader" 132) "java/lang/String" "value" "[B") .byte) (by decide +kernel) | 2, _ => exact hs (.arrayOf (.field (.string "TongueTip$Reader" 134) "java/lang/String" "value" "[B") .byte) (by decide +kernel) | 3, _ => exact hs (.arrayOf (.field (.string "TongueTip$Reader" 136) "java/lang/String" "value" "[B") .byte) (by decide +kernel) | 4, _ => exact hs (.arrayOf (.field (.string "TongueTip$Reader" 138) "java/lang/String" "value" "[B") .byte) (by decide +kernel))
    (fun i hi => by match i, hi with | 0, _ => exact hs (.eq (.length (.field (.string "TongueTip$Reader" 126) "java/lang/String" "value" "[B")) (.int 3)) (by decide +kernel) | 1, _ => exact hs (.eq (.length (.field (.string "TongueTip$Reader" 132) "java/lang/String" "value" "[B")) (.int 3)) (by decide +kernel) | 2, _ => exact hs (.eq (.length (.field (.string "TongueTip$Reader" 134) "java/lang/String" "value" "[B")) (.int 3)) (by decide +kernel) | 3, _ => exact hs (.eq (.length (.field (.string "TongueTip$Reader" 136) "java/lang/String" "value" "[B")) (.int 4)) (by decide +kernel) | 4, _ => exact hs (.eq (.length (.field (.string "TongueTip$Reader" 138) "java/lang/String" "value" "[B")) (.int 5)) (by decide +kernel))
    (fun i hi j hj => by
      match i, hi, j, hj with
      | 0, _, 0, _ => exact hs (.eq (.elem (.field (.string "TongueTip$Reader" 126) "java/lang/String" "value" "[B") (.int 0)) (.int 111)) (by decide +kernel)
      | 0, _, 1, _ => exact hs (.eq (.elem (.field (.string "TongueTip$Reader" 126) "java/lang/String" "value" "[B") (.int 1)) (.int 110)) (by decide +kernel)
      | 0, _, 2, _ => exact hs (.eq (.elem (.field (.string "TongueTip$Reader" 126) "java/lang/String" "value" "[B") (.int 2)) (.int 101)) (by decide +kernel)
      | 1, _, 0, _ => exact hs (.eq (.elem (.field (.string "TongueTip$Reader" 132) "java/lang/String" "value" "[B") (.int 0)) (.int 116)) (by decide +kernel)
      | 1, _, 1, _ => exact hs (.eq (.elem (.field (.string "TongueTip$Reader" 132) "java/lang/String" "value" "[B") (.int 1)) (.int 114)) (by decide +kernel)
      | 1, _, 2, _ => exact hs (.eq (.elem (.field (.string "TongueTip$Reader" 132) "java/lang/String" "value" "[B") (.int 2)) (.int 121)) (by decide +kernel)
      | 2, _, 0, _ => exact hs (.eq (.elem (.field (.string "TongueTip$Reader" 134) "java/lang/String" "value" "[B") (.int 0)) (.int 97)) (by decide +kernel)
      | 2, _, 1, _ => exact hs (.eq (.elem (.field (.string "TongueTip$Reader" 134) "java/lang/String" "value" "[B") (.int 1)) (.int 115)) (by decide +kernel)
      | 2, _, 2, _ => exact hs (.eq (.elem (.field (.string "TongueTip$Reader" 134) "java/lang/String" "value" "[B") (.int 2)) (.int 107)) (by decide +kernel)
      | 3, _, 0, _ => exact hs (.eq (.elem (.field (.string "TongueTip$Reader" 136) "java/lang/String" "value" "[B") (.int 0)) (.int 104)) (by decide +kernel)
      | 3, _, 1, _ => exact hs (.eq (.elem (.field (.string "TongueTip$Reader" 136) "java/lang/String" "value" "[B") (.int 1)) (.int 101)) (by decide +kernel)
      | 3, _, 2, _ => exact hs (.eq (.elem (.field (.string "TongueTip$Reader" 136) "java/lang/String" "value" "[B") (.int 2)) (.int 114)) (by decide +kernel)
      | 3, _, 3, _ => exact hs (.eq (.elem (.field (.string "TongueTip$Reader" 136) "java/lang/String" "value" "[B") (.int 3)) (.int 101)) (by decide +kernel)
      | 4, _, 0, _ => exact hs (.eq (.elem (.field (.string "TongueTip$Reader" 138) "java/lang/String" "value" "[B") (.int 0)) (.int 102)) (by decide +kernel)
      | 4, _, 1, _ => exact hs (.eq (.elem (.field (.string "TongueTip$Reader" 138) "java/lang/String" "value" "[B") (.int 1)) (.int 97)) (by decide +kernel)
      | 4, _, 2, _ => exact hs (.eq (.elem (.field (.string "TongueTip$Reader" 138) "java/lang/String" "value" "[B") (.int 2)) (.int 108)) (by decide +kernel)
      | 4, _, 3, _ => exact hs (.eq (.elem (.field (.string "TongueTip$Reader" 138) "java/lang/String" "value" "[B") (.int 3)) (.int 108)) (by decide +kernel)
      | 4, _, 4, _ => exact hs (.eq (.elem (.field (.string "TongueTip$Reader" 138) "java/lang/String" "value" "[B") (.int 4)) (.int 115)) (by decide +kernel))
    (fun i j hi hj hij => by
      match i, hi, j, hj with
      | 0, _, 0, _ => exact absurd rfl hij
      | 0, _, 1, _ => exact Or.inl (hs (.not (.eq (.string "TongueTip$Reader" 126) (.string "TongueTip$Reader" 132))) (by decide +kernel))
      | 0, _, 2, _ => exact Or.inl (hs (.not (.eq (.string "TongueTip$Reader" 126) (.string "TongueTip$Reader" 134))) (by decide +kernel))
      | 0, _, 3, _ => exact Or.inl (hs (.not (.eq (.string "TongueTip$Reader" 126) (.string "TongueTip$Reader" 136))) (by decide +kernel))
      | 0, _, 4, _ => exact Or.inl (hs (.not (.eq (.string "TongueTip$Reader" 126) (.string "TongueTip$Reader" 138))) (by decide +kernel))
      | 1, _, 0, _ => exact Or.inr (hs (.not (.eq (.string "TongueTip$Reader" 126) (.string "TongueTip$Reader" 132))) (by decide +kernel))
      | 1, _, 1, _ => exact absurd rfl hij
      | 1, _, 2, _ => exact Or.inl (hs (.not (.eq (.string "TongueTip$Reader" 132) (.string "TongueTip$Reader" 134))) (by decide +kernel))
      | 1, _, 3, _ => exact Or.inl (hs (.not (.eq (.string "TongueTip$Reader" 132) (.string "TongueTip$Reader" 136))) (by decide +kernel))
      | 1, _, 4, _ => exact Or.inl (hs (.not (.eq (.string "TongueTip$Reader" 132) (.string "TongueTip$Reader" 138))) (by decide +kernel))
      | 2, _, 0, _ => exact Or.inr (hs (.not (.eq (.string "TongueTip$Reader" 126) (.string "TongueTip$Reader" 134))) (by decide +kernel))
      | 2, _, 1, _ => exact Or.inr (hs (.not (.eq (.string "TongueTip$Reader" 132) (.string "TongueTip$Reader" 134))) (by decide +kernel))
      | 2, _, 2, _ => exact absurd rfl hij
      | 2, _, 3, _ => exact Or.inl (hs (.not (.eq (.string "TongueTip$Reader" 134) (.string "TongueTip$Reader" 136))) (by decide +kernel))
      | 2, _, 4, _ => exact Or.inl (hs (.not (.eq (.string "TongueTip$Reader" 134) (.string "TongueTip$Reader" 138))) (by decide +kernel))
      | 3, _, 0, _ => exact Or.inr (hs (.not (.eq (.string "TongueTip$Reader" 126) (.string "TongueTip$Reader" 136))) (by decide +kernel))
      | 3, _, 1, _ => exact Or.inr (hs (.not (.eq (.string "TongueTip$Reader" 132) (.string "TongueTip$Reader" 136))) (by decide +kernel))
      | 3, _, 2, _ => exact Or.inr (hs (.not (.eq (.string "TongueTip$Reader" 134) (.string "TongueTip$Reader" 136))) (by decide +kernel))
      | 3, _, 3, _ => exact absurd rfl hij
      | 3, _, 4, _ => exact Or.inl (hs (.not (.eq (.string "TongueTip$Reader" 136) (.string "TongueTip$Reader" 138))) (by decide +kernel))
      | 4, _, 0, _ => exact Or.inr (hs (.not (.eq (.string "TongueTip$Reader" 126) (.string "TongueTip$Reader" 138))) (by decide +kernel))
      | 4, _, 1, _ => exact Or.inr (hs (.not (.eq (.string "TongueTip$Reader" 132) (.string "TongueTip$Reader" 138))) (by decide +kernel))
      | 4, _, 2, _ => exact Or.inr (hs (.not (.eq (.string "TongueTip$Reader" 134) (.string "TongueTip$Reader" 138))) (by decide +kernel))
      | 4, _, 3, _ => exact Or.inr (hs (.not (.eq (.string "TongueTip$Reader" 136) (.string "TongueTip$Reader" 138))) (by decide +kernel))
      | 4, _, 4, _ => exact absurd rfl hij) hA
  refine ⟨fun k => if k = 0 then t0 else if k = 1 then t1 else if k = 2 then t2 else if k = 3 then t3 else if k = 4 then t4 else if k = 5 then t5 else if k < 20 then adK (k - 10) else adV (k - 20), ?_, ?_, hCS, hSI, vk_S_congr hVS (fun i hi => ?_) (fun i hi => ?_), ?_⟩
  · intro q hq
    rcases List.mem_cons.mp hq with rfl | hq
    · exact va_Nw.of rfl (hts _ (by decide +kernel))
    rcases List.mem_cons.mp hq with rfl | hq
    · exact va_Nw.of rfl (hts _ (by decide +kernel))
    rcases List.mem_cons.mp hq with rfl | hq
    · exact va_Nw.of rfl (hts _ (by decide +kernel))
    rcases List.mem_cons.mp hq with rfl | hq
    · exact va_Nw.of rfl (hts _ (by decide +kernel))
    rcases List.mem_cons.mp hq with rfl | hq
    · exact va_Nw.of rfl (hts _ (by decide +kernel))
    rcases List.mem_cons.mp hq with rfl | hq
    · exact va_Nw.of rfl (hts _ (by decide +kernel))
    rcases List.mem_cons.mp hq with rfl | hq
    · exact va_Nw.of rfl (hts _ (by decide +kernel))
    rcases List.mem_cons.mp hq with rfl | hq
    · exact va_Nw.of rfl (hts _ (by decide +kernel))
    rcases List.mem_cons.mp hq with rfl | hq
    · exact va_Nw.of rfl (hts _ (by decide +kernel))
    rcases List.mem_cons.mp hq with rfl | hq
    · exact va_Nw.of rfl (hts _ (by decide +kernel))
    rcases List.mem_cons.mp hq with rfl | hq
    · exact va_Nw.of rfl (hts _ (by decide +kernel))
    rcases List.mem_cons.mp hq with rfl | hq
    · exact va_Nw.of rfl (hts _ (by decide +kernel))
    cases hq
  · intro i q hq
    match i, hq with
    | 0, hq => cases hq; exact ⟨hZ0, hT0⟩
    | 1, hq => cases hq; exact ⟨hZ1, hT1⟩
    | 2, hq => cases hq; exact ⟨hZ2, hT2⟩
    | 3, hq => cases hq; exact ⟨hZ3, hT3⟩
    | 4, hq => cases hq; exact ⟨hZ4, hT4⟩
    | 5, hq => cases hq; exact ⟨hZ5, hT5⟩
    | i + 6, hq => simp [statL] at hq
  · match i, hi with | 0, _ => rfl | 1, _ => rfl | 2, _ => rfl | 3, _ => rfl | 4, _ => rfl
  · match i, hi with | 0, _ => rfl | 1, _ => rfl | 2, _ => rfl | 3, _ => rfl | 4, _ => rfl
  · intro i q hq
    match i, hq with
    | 0, hq => cases hq; exact vk_R.of (hts (.stringRef "TongueTip$Reader" 126 "one") (by decide +kernel)) (hev 0 (by decide))
    | 1, hq => cases hq; exact vk_R.of (hts (.stringRef "TongueTip$Reader" 132 "try") (by decide +kernel)) (hev 1 (by decide))
    | 2, hq => cases hq; exact vk_R.of (hts (.stringRef "TongueTip$Reader" 134 "ask") (by decide +kernel)) (hev 2 (by decide))
    | 3, hq => cases hq; exact vk_R.of (hts (.stringRef "TongueTip$Reader" 136 "here") (by decide +kernel)) (hev 3 (by decide))
    | 4, hq => cases hq; exact vk_R.of (hts (.stringRef "TongueTip$Reader" 138 "falls") (by decide +kernel)) (hev 4 (by decide))
    | i + 5, hq => simp [strL] at hq
