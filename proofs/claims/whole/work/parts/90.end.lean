-- ===== YOUR PART BEGINS =====
set_option maxHeartbeats 4000000 in
set_option maxRecDepth 100000 in
/-- YOUR PART: from the entry, for every script of at most 4096 ints, the law comes to its end with true ('hflags': the launch's flags, for a law that throws: no stack traces) -/
theorem whole_start {p : Program} {e : Env} {s : State} {m : MethodId} {below : List Frame} {meth : Method} {c : Code} (l : Launch) (hflags : l.flags = flags0) {b L : Nat} {xs : Nat → Int32} (hL : L ≤ 4096) (C0 : lw_At p s m meth c b L xs) : W p l e room_1 s m #[Value.ref b] below meth c s.heap [] 0 0 (lw_Z below #[Value.ref b] s) (entryFrame m ([Value.ref b] : List Value).toArray 4) := by
  obtain ⟨hx, hb, hr, hml, hown, hts, hX, hbl, hlocks, hgv⟩ := id C0
  obtain ⟨D, cs, hK⟩ := start_K hts
  obtain ⟨sa, hSx⟩ := start_Sx hts hgv
  obtain ⟨q, qa, q11, hq, hqa, hm, hR⟩ := r_init
  have hO : va_AO "TongueTip$Hall" s := va_AO.of (hts (.arrayOver (.object "TongueTip$Hall")) (by decide +kernel))
  have hA : ∀ q, s.heap.size ≤ q → (fun q => s.heap.size ≤ q) q := fun q h => h
  have hC : Ck p s m #[Value.ref b] c code 4 wsL_law RL D cs sa 0 (fun _ => 0) (fun q => s.heap.size ≤ q) := ⟨⟨hx, hb, hml, hown, fun w h => hts w (wsL_law_in w h)⟩, hK, ⟨fun i j hi => absurd hi (Nat.not_lt_zero _), fun k hk => absurd hk (Nat.not_lt_zero _)⟩, hSx⟩
  refine G_of (D := D) (n := 0) (ad := fun _ => 0) (A := fun q => s.heap.size ≤ q) (nL := 4) (en := fun _ => .inl (cs 0, 0, .inl (fun _ => 0))) (av := [Value.ref b]) rfl (Nat.le_of_ble_eq_true rfl) (fun k q h => by simp [wl] at h) [(0, .ref b)] rfl ?_
  have inX10 : ∀ w ∈ u_ws RX10 TX10 13, w ∈ wsL_law := inlX10
  have inX11 : ∀ w ∈ u_ws RX11 TX11 20, w ∈ wsL_law := inlX11
  have i12 : Cond.methodLink RL 12 yX11_init ∈ wsL_law := by decide +kernel
  have i9 : Cond.methodLink RL 9 yX10_init ∈ wsL_law := by decide +kernel
  have iiX10_init : Cond.instanceMethod yX10_init ∈ wsL_law := by decide +kernel
  have iiX11_init : Cond.instanceMethod yX11_init ∈ wsL_law := by decide +kernel
  have q10 : Cond.classLink RL 10 RX11 ∈ wsL_law := by decide +kernel
  have q7 : Cond.classLink RL 7 RX10 ∈ wsL_law := by decide +kernel
  have qiX10 : Cond.instantiable RX10 13 ∈ wsL_law := by decide +kernel
  have qiX11 : Cond.instantiable RX11 20 ∈ wsL_law := by decide +kernel
  have qnX10 : Cond.initialized RX10 ∈ wsL_law := by decide +kernel
  have qnX11 : Cond.initialized RX11 ∈ wsL_law := by decide +kernel
  refine G_newo hC hA (ci := 7) [.null, .null, .null, .null, .null, .null, .null, .int 0, .long 0, .long 0, .int 0, .int 0, .int 0] inX10 tyX10 tyX10_ok q7 qiX10 qnX10 rfl (fun j hj => by rcases (show j = 0 ∨ j = 1 ∨ j = 2 ∨ j = 3 ∨ j = 4 ∨ j = 5 ∨ j = 6 ∨ j = 7 ∨ j = 8 ∨ j = 9 ∨ j = 10 ∨ j = 11 ∨ j = 12 by omega) with rfl | rfl | rfl | rfl | rfl | rfl | rfl | rfl | rfl | rfl | rfl | rfl | rfl <;> rfl) (Nat.le_of_ble_eq_true rfl) (Nat.le_of_ble_eq_true rfl) dL_law_0 (fun ad en2 had hen e_new hC => ?_)
  have e_0 : en2 0 = .inr (7, [.null, .null, .null, .null, .null, .null, .null, .int 0, .long 0, .long 0, .int 0, .int 0, .int 0]) := e_new
  refine G_eq (lv' := [(0, .ref b)]) (st' := [.ref (ad 0)]) rfl rfl (fun _ _ => rfl) ?_
  refine G_dup hC rfl dL_law_3 ?_
  refine G_cA (st := [.ref (ad 0)]) hC hA hO _ 0 (c_X10_init l e_0 hq hqa) (cwI 0 hC.hts gL_law_X10_init rfl rfl rfl (hC.hts _ qnX10) (hC.hts _ i9) (hC.hts _ iiX10_init) rfl (by decide +kernel) ⟨Nat.le_of_ble_eq_true rfl, Nat.le_of_ble_eq_true rfl⟩) rfl (Nat.le_of_ble_eq_true rfl) (Nat.le_of_ble_eq_true rfl) (Nat.le_of_ble_eq_true rfl) rfl dL_law_4 (fun ad en3 hw hC => ?_)
  dsimp only at hw
  obtain ⟨had, p0, p1, p12, p13, pr, p58, pi, p81, p82, p83, p84, p95, p96, p97, p98, p99, hen⟩ := hw
  have hen : ∀ j, j < 1 → j ≠ 0 → en3 j = _ := hen
  have e_0 : en3 0 = .inr (7, [.ref (ad 1), .ref (ad 12), .ref (ad 58), .ref (ad 81), .ref (ad 83), .ref (ad 96), .ref (ad 98), .int 0, .long 0, .long 1, .int 0, .int 0, .int 0]) := p0
  have e_1 : Hall cs ad en3 1 q := p1
  have e_12 : en3 12 = .inr (2, [.ref (ad 13), .int 0, .int 0]) := p12
  have e_13 : en3 13 = .inl (cs 4, 4, .inr (.inr (.inr (.inr (ringF ad))))) := p13
  have e_14 : Hall cs ad en3 14 q := (pr 0 (by decide))
  have e_25 : Hall cs ad en3 25 q := (pr 1 (by decide))
  have e_36 : Hall cs ad en3 36 q := (pr 2 (by decide))
  have e_47 : Hall cs ad en3 47 q := (pr 3 (by decide))
  have e_58 : en3 58 = .inl (cs 4, 2, .inr (.inr (.inr (.inr (imgF ad))))) := p58
  have e_59 : Hall cs ad en3 59 q := (pi 0 (by decide))
  have e_70 : Hall cs ad en3 70 q := (pi 1 (by decide))
  have e_81 : en3 81 = .inr (6, [.ref (ad 82), .int 0]) := p81
  have e_82 : en3 82 = .inl (cs 0, 300, .inl (fun _ => 0)) := p82
  have e_83 : en3 83 = .inr (3, [.ref (ad 81), .ref (ad 84), .ref (ad 95), .int 0, .int 0, .int 0, .long 0, .int 0, .int 0, .int 0]) := p83
  have e_84 : Hall cs ad en3 84 q := p84
  have e_95 : en3 95 = .inl (cs 1, 5, .inl (fun _ => 0)) := p95
  have e_96 : en3 96 = .inr (4, [.ref (ad 97), .int 0, .int 0, .int 0, .int 0, .int 0, .long 0]) := p96
  have e_97 : en3 97 = .inl (cs 1, 326, .inl qa) := p97
  have e_98 : en3 98 = .inr (1, [.ref (ad 99), .int 0]) := p98
  have e_99 : en3 99 = .inl (cs 1, 1300, .inl (fun _ => 0)) := p99
  refine G_eq (lv' := [(0, .ref b)]) (st' := [.ref (ad 0)]) rfl (by rw [had 0 (by omega)]) (fun _ _ => rfl) ?_
  refine G_astore_n hC 1 [(1, .ref (ad 0)), (0, .ref b)] rfl (by decide) rfl dL_law_7 ?_
  refine G_newo hC hA (ci := 8) [.null, .null, .null, .null, .int 0, .int 0, .long 0, .long 0, .null, .null, .null, .null, .int 0, .int 0, .int 0, .int 0, .long 0, .long 0, .null, .long 0] inX11 tyX11 tyX11_ok q10 qiX11 qnX11 rfl (fun j hj => by rcases (show j = 0 ∨ j = 1 ∨ j = 2 ∨ j = 3 ∨ j = 4 ∨ j = 5 ∨ j = 6 ∨ j = 7 ∨ j = 8 ∨ j = 9 ∨ j = 10 ∨ j = 11 ∨ j = 12 ∨ j = 13 ∨ j = 14 ∨ j = 15 ∨ j = 16 ∨ j = 17 ∨ j = 18 ∨ j = 19 by omega) with rfl | rfl | rfl | rfl | rfl | rfl | rfl | rfl | rfl | rfl | rfl | rfl | rfl | rfl | rfl | rfl | rfl | rfl | rfl | rfl <;> rfl) (Nat.le_of_ble_eq_true rfl) (Nat.le_of_ble_eq_true rfl) dL_law_8 (fun ad en4 had hen e_new hC => ?_)
  have e_0 : en4 0 = .inr (7, [.ref (ad 1), .ref (ad 12), .ref (ad 58), .ref (ad 81), .ref (ad 83), .ref (ad 96), .ref (ad 98), .int 0, .long 0, .long 1, .int 0, .int 0, .int 0]) := by rw [hen 0 (by omega), had 1 (by omega), had 12 (by omega), had 58 (by omega), had 81 (by omega), had 83 (by omega), had 96 (by omega), had 98 (by omega)]; exact e_0
  have e_1 : Hall cs ad en4 1 q := e_1.grow (fun j h1 h2 => had j (by omega)) (fun j h1 h2 => hen j (by omega))
  have e_12 : en4 12 = .inr (2, [.ref (ad 13), .int 0, .int 0]) := by rw [hen 12 (by omega), had 13 (by omega)]; exact e_12
  have e_13 : en4 13 = .inl (cs 4, 4, .inr (.inr (.inr (.inr (ringF ad))))) := by rw [hen 13 (by omega), ringF_gr (fun j hj => had j (by omega))]; exact e_13
  have e_14 : Hall cs ad en4 14 q := e_14.grow (fun j h1 h2 => had j (by omega)) (fun j h1 h2 => hen j (by omega))
  have e_25 : Hall cs ad en4 25 q := e_25.grow (fun j h1 h2 => had j (by omega)) (fun j h1 h2 => hen j (by omega))
  have e_36 : Hall cs ad en4 36 q := e_36.grow (fun j h1 h2 => had j (by omega)) (fun j h1 h2 => hen j (by omega))
  have e_47 : Hall cs ad en4 47 q := e_47.grow (fun j h1 h2 => had j (by omega)) (fun j h1 h2 => hen j (by omega))
  have e_58 : en4 58 = .inl (cs 4, 2, .inr (.inr (.inr (.inr (imgF ad))))) := by rw [hen 58 (by omega), imgF_gr (fun j hj => had j (by omega))]; exact e_58
  have e_59 : Hall cs ad en4 59 q := e_59.grow (fun j h1 h2 => had j (by omega)) (fun j h1 h2 => hen j (by omega))
  have e_70 : Hall cs ad en4 70 q := e_70.grow (fun j h1 h2 => had j (by omega)) (fun j h1 h2 => hen j (by omega))
  have e_81 : en4 81 = .inr (6, [.ref (ad 82), .int 0]) := by rw [hen 81 (by omega), had 82 (by omega)]; exact e_81
  have e_82 : en4 82 = .inl (cs 0, 300, .inl (fun _ => 0)) := by rw [hen 82 (by omega)]; exact e_82
  have e_83 : en4 83 = .inr (3, [.ref (ad 81), .ref (ad 84), .ref (ad 95), .int 0, .int 0, .int 0, .long 0, .int 0, .int 0, .int 0]) := by rw [hen 83 (by omega), had 81 (by omega), had 84 (by omega), had 95 (by omega)]; exact e_83
  have e_84 : Hall cs ad en4 84 q := e_84.grow (fun j h1 h2 => had j (by omega)) (fun j h1 h2 => hen j (by omega))
  have e_95 : en4 95 = .inl (cs 1, 5, .inl (fun _ => 0)) := by rw [hen 95 (by omega)]; exact e_95
  have e_96 : en4 96 = .inr (4, [.ref (ad 97), .int 0, .int 0, .int 0, .int 0, .int 0, .long 0]) := by rw [hen 96 (by omega), had 97 (by omega)]; exact e_96
  have e_97 : en4 97 = .inl (cs 1, 326, .inl qa) := by rw [hen 97 (by omega)]; exact e_97
  have e_98 : en4 98 = .inr (1, [.ref (ad 99), .int 0]) := by rw [hen 98 (by omega), had 99 (by omega)]; exact e_98
  have e_99 : en4 99 = .inl (cs 1, 1300, .inl (fun _ => 0)) := by rw [hen 99 (by omega)]; exact e_99
  have e_100 : en4 100 = .inr (8, [.null, .null, .null, .null, .int 0, .int 0, .long 0, .long 0, .null, .null, .null, .null, .int 0, .int 0, .int 0, .int 0, .long 0, .long 0, .null, .long 0]) := e_new
  refine G_eq (lv' := [(1, .ref (ad 0)), (0, .ref b)]) (st' := [.ref (ad 100)]) (by rw [had 0 (by omega)]) rfl (fun _ _ => rfl) ?_
  refine G_dup hC rfl dL_law_11 ?_
  refine G_cA (st := [.ref (ad 100)]) hC hA hO _ 100 (c_X11_init l e_100 hm) (cwI 0 hC.hts gL_law_X11_init rfl rfl rfl (hC.hts _ qnX11) (hC.hts _ i12) (hC.hts _ iiX11_init) rfl (by decide +kernel) ⟨Nat.le_of_ble_eq_true rfl, Nat.le_of_ble_eq_true rfl⟩) rfl (Nat.le_of_ble_eq_true rfl) (Nat.le_of_ble_eq_true rfl) (Nat.le_of_ble_eq_true rfl) rfl dL_law_12 (fun ad en5 hw hC => ?_)
  dsimp only at hw
  obtain ⟨had, p100, p101, p102, p103, p104, p105, p106, p107, p108, p109, hen⟩ := hw
  have hen : ∀ j, j < 101 → j ≠ 100 → en5 j = _ := hen
  have e_0 : en5 0 = .inr (7, [.ref (ad 1), .ref (ad 12), .ref (ad 58), .ref (ad 81), .ref (ad 83), .ref (ad 96), .ref (ad 98), .int 0, .long 0, .long 1, .int 0, .int 0, .int 0]) := by rw [hen 0 (by omega) (by omega), had 1 (by omega), had 12 (by omega), had 58 (by omega), had 81 (by omega), had 83 (by omega), had 96 (by omega), had 98 (by omega)]; exact e_0
  have e_1 : Hall cs ad en5 1 q := e_1.grow (fun j h1 h2 => had j (by omega)) (fun j h1 h2 => hen j (by omega) (by omega))
  have e_12 : en5 12 = .inr (2, [.ref (ad 13), .int 0, .int 0]) := by rw [hen 12 (by omega) (by omega), had 13 (by omega)]; exact e_12
  have e_13 : en5 13 = .inl (cs 4, 4, .inr (.inr (.inr (.inr (ringF ad))))) := by rw [hen 13 (by omega) (by omega), ringF_gr (fun j hj => had j (by omega))]; exact e_13
  have e_14 : Hall cs ad en5 14 q := e_14.grow (fun j h1 h2 => had j (by omega)) (fun j h1 h2 => hen j (by omega) (by omega))
  have e_25 : Hall cs ad en5 25 q := e_25.grow (fun j h1 h2 => had j (by omega)) (fun j h1 h2 => hen j (by omega) (by omega))
  have e_36 : Hall cs ad en5 36 q := e_36.grow (fun j h1 h2 => had j (by omega)) (fun j h1 h2 => hen j (by omega) (by omega))
  have e_47 : Hall cs ad en5 47 q := e_47.grow (fun j h1 h2 => had j (by omega)) (fun j h1 h2 => hen j (by omega) (by omega))
  have e_58 : en5 58 = .inl (cs 4, 2, .inr (.inr (.inr (.inr (imgF ad))))) := by rw [hen 58 (by omega) (by omega), imgF_gr (fun j hj => had j (by omega))]; exact e_58
  have e_59 : Hall cs ad en5 59 q := e_59.grow (fun j h1 h2 => had j (by omega)) (fun j h1 h2 => hen j (by omega) (by omega))
  have e_70 : Hall cs ad en5 70 q := e_70.grow (fun j h1 h2 => had j (by omega)) (fun j h1 h2 => hen j (by omega) (by omega))
  have e_81 : en5 81 = .inr (6, [.ref (ad 82), .int 0]) := by rw [hen 81 (by omega) (by omega), had 82 (by omega)]; exact e_81
  have e_82 : en5 82 = .inl (cs 0, 300, .inl (fun _ => 0)) := by rw [hen 82 (by omega) (by omega)]; exact e_82
  have e_83 : en5 83 = .inr (3, [.ref (ad 81), .ref (ad 84), .ref (ad 95), .int 0, .int 0, .int 0, .long 0, .int 0, .int 0, .int 0]) := by rw [hen 83 (by omega) (by omega), had 81 (by omega), had 84 (by omega), had 95 (by omega)]; exact e_83
  have e_84 : Hall cs ad en5 84 q := e_84.grow (fun j h1 h2 => had j (by omega)) (fun j h1 h2 => hen j (by omega) (by omega))
  have e_95 : en5 95 = .inl (cs 1, 5, .inl (fun _ => 0)) := by rw [hen 95 (by omega) (by omega)]; exact e_95
  have e_96 : en5 96 = .inr (4, [.ref (ad 97), .int 0, .int 0, .int 0, .int 0, .int 0, .long 0]) := by rw [hen 96 (by omega) (by omega), had 97 (by omega)]; exact e_96
  have e_97 : en5 97 = .inl (cs 1, 326, .inl qa) := by rw [hen 97 (by omega) (by omega)]; exact e_97
  have e_98 : en5 98 = .inr (1, [.ref (ad 99), .int 0]) := by rw [hen 98 (by omega) (by omega), had 99 (by omega)]; exact e_98
  have e_99 : en5 99 = .inl (cs 1, 1300, .inl (fun _ => 0)) := by rw [hen 99 (by omega) (by omega)]; exact e_99
  have e_100 : en5 100 = .inr (8, [.ref (ad 101), .ref (ad 102), .ref (ad 103), .ref (ad 104), .int 0, .int 0, .long 0, .long 1, .ref (ad 105), .ref (ad 106), .ref (ad 107), .ref (ad 108), .int 0, .int 0, .int 0, .int 0, .long 0, .long 0, .ref (ad 109), .long 0]) := p100
  have e_101 : en5 101 = .inl (cs 1, 960, .inl (q11)) := p101
  have e_102 : en5 102 = .inl (cs 2, 96, .inr (.inl (fun _ => 0))) := p102
  have e_103 : en5 103 = .inl (cs 3, 2, .inl (fun _ => 0)) := p103
  have e_104 : en5 104 = .inl (cs 1, 300, .inl (fun _ => 0)) := p104
  have e_105 : en5 105 = .inl (cs 1, 3, .inl (fun _ => 0)) := p105
  have e_106 : en5 106 = .inl (cs 1, 60, .inl (fun _ => 0)) := p106
  have e_107 : en5 107 = .inl (cs 2, 60, .inr (.inl (fun _ => 0))) := p107
  have e_108 : en5 108 = .inl (cs 1, 300, .inl (fun _ => 0)) := p108
  have e_109 : en5 109 = .inl (cs 1, 1300, .inl (fun _ => 0)) := p109
  refine G_eq (lv' := [(1, .ref (ad 0)), (0, .ref b)]) (st' := [.ref (ad 100)]) (by rw [had 0 (by omega)]) (by rw [had 100 (by omega)]) (fun _ _ => rfl) ?_
  refine G_astore_n hC 2 [(2, .ref (ad 100)), (1, .ref (ad 0)), (0, .ref b)] rfl (by decide) rfl dL_law_15 ?_
  refine G_iconst hC (v := 0) (by decide) dL_law_16 ?_
  refine G_istore_n hC 3 [(3, .int 0), (2, .ref (ad 100)), (1, .ref (ad 0)), (0, .ref b)] rfl (by decide) rfl dL_law_17 ?_
  refine G_lv [3, 2, 1, 0] rfl ?_
  exact law_loop hL hX hbl hC hr hlocks (L + 1) 0 (by omega) (Nat.zero_le _) 0 rfl _ _ _ _ _ _ _ _ _ _ _ _ _ _ _ _ _ _ _ _ _ _ _ _ _ _ _ _ _ _ _ _ _ _ _ _ _ _ _ _ _ _ _ _ _ _ _ _ _ _ _ _ ⟨e_0, e_12, e_81, e_83, e_96, e_98, e_100, e_82, e_95, e_97, e_99, e_101, e_102, e_103, e_104, e_105, e_106, e_107, e_108, e_109, e_13, e_58, e_1, e_84, (fun i hi => by match i, hi with | 0, _ => exact e_14 | 1, _ => exact e_25 | 2, _ => exact e_36 | 3, _ => exact e_47), (fun i hi => by match i, hi with | 0, _ => exact e_59 | 1, _ => exact e_70)⟩ hR
-- ===== YOUR PART ENDS =====
set_option maxHeartbeats 4000000 in
theorem lw_walk (l : Launch) (hflags : l.flags = flags0) (b : Addr) (xs : List Int32) : MetFree l x (headSpec (Jvm.Cond.code x code maxLocals ret :: tables_1) room_1) (lw_P b xs) (fun _ _ _ _ _ => True) lw_Q := by
  refine MetFree.of_bodyS (code := code) (maxLocals := maxLocals) (ret := ret) (by decide) ?_ ?_
  · intro args s m h hn
    obtain ⟨meth, c, h1, h2, h3, h4, h5, h6, -, -⟩ := Cond.code_spec hn (atoms_spec (ws := Jvm.Cond.code x code maxLocals ret :: tables_1) h _ List.mem_cons_self)
    exact ⟨meth, c, h1, h2, h3, h4, h5, h6⟩
  · intro p e s m args below meth c s₁ B hml0 hP _
    obtain ⟨rfl, hx, hbd, hgv⟩ := hP
    obtain ⟨scr, harrAt, hlist, hof, hsmall⟩ := hx
    obtain ⟨hcb, hkn, -, -⟩ := State.arrayAt?_spec harrAt
    have hown : s.vm.findClass R_law = some m.cls := findClass_of_methodNamed B.named
    have hts0 : ∀ c ∈ (Jvm.Cond.code x code maxLocals ret :: tables_1), c.before #[Value.ref b] s = true := atoms_spec (ws := Jvm.Cond.code x code maxLocals ret :: tables_1) B.pre
    have hts : ∀ w ∈ lw_tbl, w.before #[Value.ref b] s = true := k2_hts_sels lw_privs (fun w hw => hts0 w (List.mem_cons_of_mem _ hw)) lw_privs_ok
    have hml : c.maxLocals = 4 := B.maxLocals_eq (hts0 _ List.mem_cons_self)
    have X₀ : Stand p l e room_1 s m #[Value.ref b] below meth c s₁ [] 0 0 := Stand.of_body B
    have hh0 : s₁.heap = s.heap := by rw [B.state]; rfl
    have hsz : scr.slots.size = xs.length := by rw [← Array.length_toList, hlist, List.length_map]
    have hval : ∀ j : Nat, j < xs.length → scr.slots[j]? = some (.int (xs.getD j 0)) := fun j hj => by
      rw [← Array.getElem?_toList, hlist]
      simp [hj]
    have hbl : b < s.heap.size := (Array.getElem?_eq_some_iff.mp hcb).1
    have hX : va_X b xs.length (fun j => xs.getD j 0) s s.heap := ⟨scr, hcb, hof, hkn, hsz, hval⟩
    have K : W p l e room_1 s m #[Value.ref b] below meth c s₁.heap [] 0 0 (lw_Z below #[Value.ref b] s) (entryFrame m ([Value.ref b] : List Value).toArray 4) := by
      rw [hh0]
      exact whole_start l hflags hbd ⟨B.exec, B.bytes, B.returns, hml, hown, hts, hX, hbl, B.notSynchronized, hgv⟩
    obtain ⟨t, a1, o, b1, b2, b3⟩ := K s₁ rfl X₀
    exact ⟨t, o, a1, b1, b2, b3⟩
theorem lw_pre_spec {args : Array Value} {s : State} (h : (Jvm.Cond.and given_1 narrow_1).before args s = true) (hr : rest_1_c.before args s = true) : ∃ (b : Addr) (xs : List Int32), lw_P b xs args s := by
  have hs := flat_of_before _ h
  have hq := flat_of_before _ hr
  have hc : (Cond.count 1).before args s = true := hs _ (by decide +kernel)
  have harr : (Cond.arrayOf (.arg 0) .int).before args s = true := hs _ (by decide +kernel)
  have hle : (Cond.le (.length (.arg 0)) (.int 4096)).before args s = true := hs _ (by decide +kernel)
  have hlen : (Cond.isInt (.length (.arg 0))).before args s = true := hq _ (by decide +kernel)
  have hall : (Cond.all (.arg 0) (.isInt (.elem (.arg 0) (.index 0)))).before args s = true := hq _ (by decide +kernel)
  obtain ⟨b, xs, hb, hx⟩ := State.ints_of_pre rfl harr hlen hall
  have hsm : xs.length < 2 ^ 31 := hx.choose_spec.2.2.2
  have hev : (Term.length (.arg 0)).eval args s none [] s = some (.int xs.length.toInt32) := hx.length_eval hb
  have hv := Cond.le_ints hev (show (Term.int 4096).eval args s none [] s = some (.int 4096) from rfl)
  have hd : xs.length.toInt32 ≤ 4096 := by
    simpa [Cond.before, Cond.holds, hv] using hle
  have hN : xs.length ≤ 4096 := (Int32.ofNat_le_ofNat hsm (by decide)).mp (show Int32.ofNat xs.length ≤ Int32.ofNat 4096 from hd)
  exact ⟨b, xs, Cond.one_arg hc (show args[0]? = some (.ref b) from hb), hx, hN, h⟩
theorem lw_comes (l : Launch) (hflags : l.flags = flags0) : Comes l x (Jvm.Cond.code x code maxLocals ret :: tables_1) room_1 (fun tb e args s => Calls_1 tb e args s ∧ rest_1 tb e args s ∧ Pre_1 tb e args s)
    (fun _ _ args s o t => lw_Q args s o t) := by
  intro p e ha hc hk s m args below hf hfit hheap happ hpre
  obtain ⟨b, xs, hP⟩ := lw_pre_spec hpre.2.2 hpre.2.1
  obtain ⟨k, o, h1, h2, h3, hQ⟩ := lw_walk l hflags b xs p e ha hc hk s m args below hf ((Spec.applies_iff_loose hf).mp happ).1 hP trivial
  exact ⟨k, o, h1, h2, h3, hQ⟩
theorem lw_frame {s t : State} {o : Outcome} {args : Array Value} (h : Framed s o t [] 600000 7302250) :
    Framed s o t (fieldLocs frame_1_writes args s ++ arrayLocs frame_1_arrays args s ++ staticLocs frame_1_statics s) 600000 7302250 := h
theorem lw_limb (L : Cond) (hL : ∀ (args : Array Value) (s t : State), L.after args s (.returned (some (.int 1))) t = true) :
    ArmFor flags0 classFile x code maxLocals ret World_1 tables_1 room_1 Calls_1 rest_1 Pre_1
      (fun tb e a s o t => postC L tb e a s o t ∧ Framed s o t (fieldLocs frame_1_writes a s ++ arrayLocs frame_1_arrays a s ++ staticLocs frame_1_statics s) 600000 7302250) := by
  intro l hflags _ _ p e ha hc hk s m args below hf hfit hheap happ hpre
  obtain ⟨k, o, h1, h2, h3, rfl, hF⟩ := lw_comes l hflags p e ha hc hk s m args below hf hfit hheap happ hpre
  exact ⟨k, _, h1, h2, h3, hL args s _, lw_frame hF⟩
theorem i_vc : Claimed_1_1 ∧ Claimed_1_2 := ⟨lw_limb limb_1_1 (fun args s t => by simp [limb_1_1, Cond.after, Cond.holds, Cond.value]), lw_limb limb_1_2 (fun args s t => Cond.after_iff.mpr (by
  first | (rw [show limb_1_2 = Cond.eq .result (.int 1) from rfl, Cond.eq_ints (x := 1) (y := 1) rfl rfl]; simp; done) | (simp [limb_1_2, Cond.value, Term.eval]; done)))⟩

