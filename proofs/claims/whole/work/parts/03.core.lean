/-! CORE: a world by places (place k holds the cell ad k with content en k), the judgement G (from any heap that holds the world), a row an instruction -/
theorem ifp {α : Type} {P : Prop} [Decidable P] {a b x : α} (h : P) (e : (if P then a else b) = x) : a = x := by rw [if_pos h] at e; exact e
theorem ifn {α : Type} {P : Prop} [Decidable P] {a b x : α} (h : ¬ P) (e : (if P then a else b) = x) : b = x := by rw [if_neg h] at e; exact e
theorem bnd {α β : Type} {o : Option α} {f : α → Option β} {x : β} (e : o.bind f = some x) : ∃ r, o = some r ∧ f r = some x := by
  cases o with
  | none => cases e
  | some r => exact ⟨r, rfl, e⟩
theorem asr {α : Type} {P : Prop} [Decidable P] {a : Option α} {x : α} (e : (if P then a else none) = some x) : P ∧ a = some x := by
  by_cases h : P
  · rw [if_pos h] at e; exact ⟨h, e⟩
  · rw [if_neg h] at e; cases e
theorem asn {α : Type} {P : Prop} [Decidable P] {a : Option α} {x : α} (e : (if P then none else a) = some x) : ¬ P ∧ a = some x := by
  by_cases h : P
  · rw [if_pos h] at e; cases e
  · rw [if_neg h] at e; exact ⟨h, e⟩
def irm (x y : Int32) : Int32 := x - x / y * y
def lrm (x y : Int64) : Int64 := x - x / y * y
def imax (x y : Int32) : Int32 := if x < y then y else x
def imin (x y : Int32) : Int32 := if y < x then y else x
theorem nar_b {v : Int32} (h : v = 0 ∨ v = 1) : narrow .boolean (.int v) = .int v := by rcases h with rfl | rfl <;> decide
def wl (n : Nat) (ad : Nat → Nat) (en : Nat → va_E) : va_W := (List.range n).map fun k => (ad k, en k)
theorem wl_at {n k : Nat} {ad : Nat → Nat} {en : Nat → va_E} {e : va_E} (h : k < n) (he : en k = e) : (wl n ad en)[k]? = some (ad k, e) := by subst he; simp [wl, h]
theorem wl_len {n : Nat} {ad : Nat → Nat} {en : Nat → va_E} : (wl n ad en).length = n := by simp [wl]
theorem wl_none {n k : Nat} {ad : Nat → Nat} {en : Nat → va_E} (h : n ≤ k) : (wl n ad en)[k]? = none := by rw [List.getElem?_eq_none_iff, wl_len]; exact h
theorem wl_inv {n k : Nat} {ad : Nat → Nat} {en : Nat → va_E} {q : Nat × va_E} (h : (wl n ad en)[k]? = some q) : k < n ∧ q = (ad k, en k) := by
  by_cases hk : k < n
  · rw [wl_at hk rfl] at h; cases h; exact ⟨hk, rfl⟩
  · rw [wl_none (by omega)] at h; cases h
theorem wl_set {n k : Nat} {ad : Nat → Nat} {en : Nat → va_E} {e : va_E} : (wl n ad en).set k (ad k, e) = wl n ad (va_up en k e) := by
  apply List.ext_getElem?
  intro j
  by_cases hj : j < n
  · by_cases hk : j = k
    · subst hk
      rw [List.getElem?_set_self (by rw [wl_len]; exact hj), wl_at hj (va_up_self _ _ _)]
    · rw [List.getElem?_set_ne (fun z => hk z.symm), wl_at hj rfl, wl_at hj (va_up_ne _ _ hk)]
  · rw [wl_none (by omega), List.getElem?_eq_none_iff, List.length_set, wl_len]; omega
theorem wl_push {n a : Nat} {ad : Nat → Nat} {en : Nat → va_E} {e : va_E} : wl n ad en ++ [(a, e)] = wl (n + 1) (va_up ad n a) (va_up en n e) := by
  apply List.ext_getElem?
  intro j
  by_cases hj : j < n
  · rw [List.getElem?_append_left (by rw [wl_len]; exact hj), wl_at hj rfl, wl_at (by omega) (va_up_ne _ _ (by omega)), va_up_ne _ _ (by omega)]
  · rw [List.getElem?_append_right (by rw [wl_len]; omega), wl_len]
    by_cases h2 : j = n
    · subst h2
      rw [Nat.sub_self, wl_at (by omega) (va_up_self _ _ _), va_up_self]; rfl
    · rw [wl_none (by omega), List.getElem?_eq_none_iff]; simp; omega
theorem wl_congr {n : Nat} {ad : Nat → Nat} {en en' : Nat → va_E} (h : ∀ k, k < n → en k = en' k) : wl n ad en = wl n ad en' := by
  apply List.map_congr_left
  intro k hk
  rw [h k (List.mem_range.mp hk)]
/-- the addresses are apart, and of the kind A -/
def Dj (A : Nat → Prop) (n : Nat) (ad : Nat → Nat) : Prop := (∀ i j, i < n → j < n → ad i = ad j → i = j) ∧ ∀ k, k < n → A (ad k)
theorem Dj.w {A : Nat → Prop} {n : Nat} {ad : Nat → Nat} (h : Dj A n ad) (en : Nat → va_E) : va_D A (wl n ad en) := by
  refine ⟨fun i j p q hi hj hpq => ?_, fun k q hk => ?_⟩
  · obtain ⟨h1, rfl⟩ := wl_inv hi
    obtain ⟨h2, rfl⟩ := wl_inv hj
    exact h.1 i j h1 h2 hpq
  · obtain ⟨h1, rfl⟩ := wl_inv hk
    exact h.2 k h1
theorem Dj.of {A : Nat → Prop} {n : Nat} {ad : Nat → Nat} {en : Nat → va_E} (h : va_D A (wl n ad en)) : Dj A n ad :=
  ⟨fun i j hi hj hij => h.1 i j _ _ (wl_at hi rfl) (wl_at hj rfl) hij, fun k hk => h.2 k _ (wl_at hk rfl)⟩
/-- the classes of the arrays: byte, int, long, boolean, Hall -/
abbrev tyL (cs : Nat → ClassId) : List (ClassId × FieldType) := [(cs 0, .byte), (cs 1, .int), (cs 2, .long), (cs 3, .boolean), (cs 4, .object "TongueTip$Hall")]
/-- what is old and stays: links of nest mates, static arrays, text constants -/
abbrev nestL : List (String × Nat × MethodName × String) := [("TongueTip$Hall", 50, yX10_at, "TongueTip"), ("TongueTip$Hall", 78, yX10_within, "TongueTip"), ("TongueTip$Names", 19, yX10_within, "TongueTip"), ("TongueTip$Night", 21, yX10_isIn, "TongueTip"), ("TongueTip$Night", 59, yX10_at, "TongueTip"), ("TongueTip$Night", 63, yX10_set, "TongueTip"), ("TongueTip$Parts", 35, yX10_isIn, "TongueTip"), ("TongueTip$Reader", 122, yX10_within, "TongueTip"), ("TongueTip$Reader", 76, yX10_at, "TongueTip"), ("TongueTip$Reader", 83, yX10_set, "TongueTip"), ("TongueTip$Rows", 57, yX10_isIn, "TongueTip"), ("TongueTip$Text", 19, yX10_within, "TongueTip")]
abbrev statL : List (String × String × List Int32) := [("TongueTip$Hall", "SETTING_FIRST", [0, 7, 0, 3, 6, 8, 9, 10]), ("TongueTip$Hall", "SETTING_LEAST", [0, 1, 0, 0, 0, 0, 0, 0]), ("TongueTip$Hall", "SETTING_MOST", [5, 99, 60, 20, 20, 20, 20, 20]), ("TongueTip$Hall", "PART_LEAST", [0, 1, 1, 0, 0]), ("TongueTip$Hall", "PART_MOST", [25, 7, 5, 5, 5]), ("TongueTip$Reader", "NUMBERS", [5, 3, 2, 1, 1])]
abbrev strL : List (Nat × String) := [(126, "one"), (132, "try"), (134, "ask"), (136, "here"), (138, "falls")]
abbrev strLen : List Nat := [3, 3, 3, 4, 5]
abbrev strByt : List (List Int32) := [[111, 110, 101], [116, 114, 121], [97, 115, 107], [104, 101, 114, 101], [102, 97, 108, 108, 115]]
def statOk (sa : Nat → Nat) (A : Nat → Prop) (U : State) (H : Heap) (i : Nat) (q : String × String × List Int32) : Prop := va_Z q.1 q.2.1 "[I" (.ref (sa i)) A U H ∧ va_T .int (sa i) q.2.2.length (fun j => .int (q.2.2.getD j 0)) A U H
def stQ (i : Nat) : String × String × List Int32 := statL.getD i ("", "", [])
def stN (i : Nat) : Nat := (stQ i).2.2.length
def stF (i : Nat) : Nat → Int32 := fun j => (stQ i).2.2.getD j 0
theorem stQ_at {i : Nat} (h : i < 6) : statL[i]? = some (stQ i) := by
  match i, h with
  | 0, _ => rfl
  | 1, _ => rfl
  | 2, _ => rfl
  | 3, _ => rfl
  | 4, _ => rfl
  | 5, _ => rfl
def Sx (sa : Nat → Nat) (A : Nat → Prop) (U : State) (H : Heap) : Prop :=
  (∀ q ∈ nestL, va_Nw (.methodLinkNest q.1 q.2.1 q.2.2.1 q.2.2.2) U) ∧ (∀ i q, statL[i]? = some q → statOk sa A U H i q) ∧ va_Z "java/lang/String" "COMPACT_STRINGS" "Z" (.int 1) A U H ∧ va_Zq "jdk/internal/util/Preconditions" "SIOOBE_FORMATTER" "Ljava/util/function/BiFunction;" A U H ∧
  vk_S 5 strLen strByt (fun i => sa (10 + i)) (fun i => sa (20 + i)) A U H ∧ ∀ i q, strL[i]? = some q → vk_R "TongueTip$Reader" q.1 q.2 (sa (10 + i)) U
theorem Sx.to {sa : Nat → Nat} {A : Nat → Prop} {s U : State} {H : Heap} {locs : List Loc} (h : Sx sa A s s.heap) (hS : va_S A s.heap H locs) (hU : U.heap = H) (hW : s.WarmedH U.vm) : Sx sa A U U.heap := by
  have hq : ∀ a : Nat, a < s.heap.size → ¬ A a → U.heap[a]? = s.heap[a]? := fun a h1 h2 => by rw [hU]; exact hS.2.1 a h1 h2
  obtain ⟨h1, h2, h3, h4, h5, h6⟩ := h
  refine ⟨fun q hm => (h1 q hm).warmM hW, fun i q hi => ⟨((h2 i q hi).1.moved hW.alike).kept hq, ((h2 i q hi).2.moved hW.alike).kept hq⟩, (h3.moved hW.alike).kept hq, ?_, (h5.moved hW.alike).kept hq, fun i q hi => (h6 i q hi).warm hW⟩
  rcases h4 with h | ⟨t, h⟩
  · exact Or.inl ((h.moved hW.alike).kept hq)
  · exact Or.inr ⟨t, (h.moved hW.alike).kept hq⟩
theorem Sx.call {sa : Nat → Nat} {A : Nat → Prop} {U : State} {a : Array Value} {g : JFrame} {mk : MethodId} (h : Sx sa A U U.heap) : Sx sa A (U.calling g mk a) (U.calling g mk a).heap := by
  have al : U.vm.Alike (U.calling g mk a).vm := Vm.Alike.refl U.vm
  obtain ⟨h1, h2, h3, h4, h5, h6⟩ := h
  refine ⟨fun q hm => (h1 q hm).same rfl rfl, fun i q hi => ⟨(h2 i q hi).1.moved al, (h2 i q hi).2.moved al⟩, h3.moved al, ?_, h5.moved al, fun i q hi => (h6 i q hi).same rfl⟩
  rcases h4 with h | ⟨t, h⟩
  · exact Or.inl (h.moved al)
  · exact Or.inr ⟨t, h.moved al⟩
/-- a method's world: the cells, the classes, the addresses apart, what is old -/
def Wd (D : va_G) (cs : Nat → ClassId) (sa : Nat → Nat) (n : Nat) (ad : Nat → Nat) (A : Nat → Prop) (en : Nat → va_E) (U : State) : Prop := va_P D vwCl (wl n ad en) U.heap ∧ va_K D vwCl (tyL cs) U ∧ Dj A n ad ∧ Sx sa A U U.heap
theorem Wd.blind {D : va_G} {cs : Nat → ClassId} {sa : Nat → Nat} {n : Nat} {ad : Nat → Nat} {A : Nat → Prop} {en : Nat → va_E} {av : List Value} : FrameBlind (va_Pc av (Wd D cs sa n ad A en)) := fun a U g mk h => ⟨h.1, h.2.1, va_K.moved (u := U) (U := U.calling g mk a) (Vm.Alike.refl U.vm) h.2.2.1, h.2.2.2.1, h.2.2.2.2.call⟩
section GG
variable {p : Program} {l : Launch} {e : Env} {R : Room} {s : State} {m : MethodId} {args : Array Value} {below : List Frame} {meth : Method} {c : Code} {D : va_G} {cs : Nat → ClassId} {sa : Nat → Nat} {n : Nat} {ad : Nat → Nat} {A : Nat → Prop} {nL cells slots : Nat} {Q : State → Prop} {en : Nat → va_E} {cc : ByteArray} {Ts : List Cond} {own : String} {pc : Nat} {lv : List (Nat × Value)} {st : List Value}
/-- what holds all along a method's walk -/
def Ck (p : Program) (s : State) (m : MethodId) (args : Array Value) (c : Code) (cc : ByteArray) (nL : Nat) (Ts : List Cond) (own : String) (D : va_G) (cs : Nat → ClassId) (sa : Nat → Nat) (n : Nat) (ad : Nat → Nat) (A : Nat → Prop) : Prop := CallFix p m c cc nL s args Ts own ∧ va_K D vwCl (tyL cs) s ∧ Dj A n ad ∧ Sx sa A s s.heap
def G (p : Program) (l : Launch) (e : Env) (R : Room) (s : State) (m : MethodId) (args : Array Value) (below : List Frame) (meth : Method) (c : Code) (D : va_G) (n : Nat) (ad : Nat → Nat) (A : Nat → Prop) (nL cells slots : Nat) (Q : State → Prop) (en : Nat → va_E) (pc : Nat) (lv : List (Nat × Value)) (st : List Value) : Prop :=
  ∀ (H : Heap) (locs : List Loc) (ls : Array Slot), va_P D vwCl (wl n ad en) H → va_S A s.heap H locs → lv_has ls nL lv → W p l e R s m args below meth c H locs cells slots Q (F0 m pc ls st)
theorem Ck.hts (hC : Ck p s m args c cc nL Ts own D cs sa n ad A) : ∀ w ∈ Ts, w.before args s = true := hC.1.2.2.2.2
theorem Ck.wd {H : Heap} {locs : List Loc} {U : State} (hC : Ck p s m args c cc nL Ts own D cs sa n ad A) (hP : va_P D vwCl (wl n ad en) H) (hS : va_S A s.heap H locs) (hU : U.heap = H) (hW : s.WarmedH U.vm) : Wd D cs sa n ad A en U := ⟨by rw [hU]; exact hP, va_K.moved hW.alike hC.2.1, hC.2.2.1, hC.2.2.2.to hS hU hW⟩
theorem G_iconst (hC : Ck p s m args c cc nL Ts own D cs sa n ad A) {z : Int} {v : Int32} (hv : Int32.ofInt z = v) (d : decode cc pc = .ok (.iconst z, 1)) (k : G p l e R s m args below meth c D n ad A nL cells slots Q en (pc + 1) lv (.int v :: st)) : G p l e R s m args below meth c D n ad A nL cells slots Q en pc lv (st) := fun H locs ls hP hS hl => lv_iconst hC.1.1 hC.1.2.1 d hv (k H locs ls hP hS hl)
theorem G_bipush (hC : Ck p s m args c cc nL Ts own D cs sa n ad A) {z : Int} {v : Int32} (hv : (Int8.ofInt z).toInt32 = v) (d : decode cc pc = .ok (.bipush z, 2)) (k : G p l e R s m args below meth c D n ad A nL cells slots Q en (pc + 2) lv (.int v :: st)) : G p l e R s m args below meth c D n ad A nL cells slots Q en pc lv (st) := fun H locs ls hP hS hl => lv_bipush hC.1.1 hC.1.2.1 d hv (k H locs ls hP hS hl)
theorem G_sipush (hC : Ck p s m args c cc nL Ts own D cs sa n ad A) {z : Int} {v : Int32} (hv : (Int16.ofInt z).toInt32 = v) (d : decode cc pc = .ok (.sipush z, 3)) (k : G p l e R s m args below meth c D n ad A nL cells slots Q en (pc + 3) lv (.int v :: st)) : G p l e R s m args below meth c D n ad A nL cells slots Q en pc lv (st) := fun H locs ls hP hS hl => lv_sipush hC.1.1 hC.1.2.1 d hv (k H locs ls hP hS hl)
theorem G_lconst (hC : Ck p s m args c cc nL Ts own D cs sa n ad A) {z : Fin 2} {v : Int64} (hv : Int64.ofNat (z : Nat) = v) (d : decode cc pc = .ok (.lconst z, 1)) (k : G p l e R s m args below meth c D n ad A nL cells slots Q en (pc + 1) lv (.long v :: st)) : G p l e R s m args below meth c D n ad A nL cells slots Q en pc lv (st) := fun H locs ls hP hS hl => lv_lconst hC.1.1 hC.1.2.1 d hv (k H locs ls hP hS hl)
theorem G_ldc (hC : Ck p s m args c cc nL Ts own D cs sa n ad A) {index : Nat} {v : Int32} (hw : Jvm.Cond.constant own index v ∈ Ts) (d : decode cc pc = .ok (.ldc index, 2)) (k : G p l e R s m args below meth c D n ad A nL cells slots Q en (pc + 2) lv (.int v :: st)) : G p l e R s m args below meth c D n ad A nL cells slots Q en pc lv (st) := fun H locs ls hP hS hl => lv_ldc hC.1.1 hC.1.2.1 hC.1.2.2.2.1 (hC.hts _ hw) d (k H locs ls hP hS hl)
theorem G_ldcw (hC : Ck p s m args c cc nL Ts own D cs sa n ad A) {index : Nat} {v : Int32} (hw : Jvm.Cond.constant own index v ∈ Ts) (d : decode cc pc = .ok (.ldc_w index, 3)) (k : G p l e R s m args below meth c D n ad A nL cells slots Q en (pc + 3) lv (.int v :: st)) : G p l e R s m args below meth c D n ad A nL cells slots Q en pc lv (st) := fun H locs ls hP hS hl => lv_ldcw hC.1.1 hC.1.2.1 hC.1.2.2.2.1 (hC.hts _ hw) d (k H locs ls hP hS hl)
theorem G_ldc2 (hC : Ck p s m args c cc nL Ts own D cs sa n ad A) {index : Nat} {v : Int64} (hw : Jvm.Cond.constantLong own index v ∈ Ts) (d : decode cc pc = .ok (.ldc2_w index, 3)) (k : G p l e R s m args below meth c D n ad A nL cells slots Q en (pc + 3) lv (.long v :: st)) : G p l e R s m args below meth c D n ad A nL cells slots Q en pc lv (st) := fun H locs ls hP hS hl => lv_ldc2 hC.1.1 hC.1.2.1 hC.1.2.2.2.1 (hC.hts _ hw) d (k H locs ls hP hS hl)
theorem G_iload_n (hC : Ck p s m args c cc nL Ts own D cs sa n ad A) {f : Fin 4} (i : Nat) (q : Nat) {x : Int32} (hi : (f : Nat) = i) (hq : lv[q]? = some (i, .int x)) (d : decode cc pc = .ok (.iload_n f, 1)) (k : G p l e R s m args below meth c D n ad A nL cells slots Q en (pc + 1) lv (.int x :: st)) : G p l e R s m args below meth c D n ad A nL cells slots Q en pc lv (st) := fun H locs ls hP hS hl => lv_iload_n hC.1.1 hC.1.2.1 d hi (lv_at hl q hq) (k H locs ls hP hS hl)
theorem G_iload (hC : Ck p s m args c cc nL Ts own D cs sa n ad A) (i : Nat) (q : Nat) {x : Int32} (hq : lv[q]? = some (i, .int x)) (d : decode cc pc = .ok (.iload i, 2)) (k : G p l e R s m args below meth c D n ad A nL cells slots Q en (pc + 2) lv (.int x :: st)) : G p l e R s m args below meth c D n ad A nL cells slots Q en pc lv (st) := fun H locs ls hP hS hl => lv_iload hC.1.1 hC.1.2.1 d (lv_at hl q hq) (k H locs ls hP hS hl)
theorem G_lload_n (hC : Ck p s m args c cc nL Ts own D cs sa n ad A) {f : Fin 4} (i : Nat) (q : Nat) {x : Int64} (hi : (f : Nat) = i) (hq : lv[q]? = some (i, .long x)) (d : decode cc pc = .ok (.lload_n f, 1)) (k : G p l e R s m args below meth c D n ad A nL cells slots Q en (pc + 1) lv (.long x :: st)) : G p l e R s m args below meth c D n ad A nL cells slots Q en pc lv (st) := fun H locs ls hP hS hl => lv_lload_n hC.1.1 hC.1.2.1 d hi (lv_at hl q hq) (k H locs ls hP hS hl)
theorem G_lload (hC : Ck p s m args c cc nL Ts own D cs sa n ad A) (i : Nat) (q : Nat) {x : Int64} (hq : lv[q]? = some (i, .long x)) (d : decode cc pc = .ok (.lload i, 2)) (k : G p l e R s m args below meth c D n ad A nL cells slots Q en (pc + 2) lv (.long x :: st)) : G p l e R s m args below meth c D n ad A nL cells slots Q en pc lv (st) := fun H locs ls hP hS hl => lv_lload hC.1.1 hC.1.2.1 d (lv_at hl q hq) (k H locs ls hP hS hl)
theorem G_aload_n (hC : Ck p s m args c cc nL Ts own D cs sa n ad A) {f : Fin 4} (i : Nat) (q : Nat) {x : Nat} (hi : (f : Nat) = i) (hq : lv[q]? = some (i, .ref x)) (d : decode cc pc = .ok (.aload_n f, 1)) (k : G p l e R s m args below meth c D n ad A nL cells slots Q en (pc + 1) lv (.ref x :: st)) : G p l e R s m args below meth c D n ad A nL cells slots Q en pc lv (st) := fun H locs ls hP hS hl => lv_aload_n hC.1.1 hC.1.2.1 d hi (lv_at hl q hq) (k H locs ls hP hS hl)
theorem G_aload_nN (hC : Ck p s m args c cc nL Ts own D cs sa n ad A) {f : Fin 4} (i : Nat) (q : Nat) (hi : (f : Nat) = i) (hq : lv[q]? = some (i, .null)) (d : decode cc pc = .ok (.aload_n f, 1)) (k : G p l e R s m args below meth c D n ad A nL cells slots Q en (pc + 1) lv (.null :: st)) : G p l e R s m args below meth c D n ad A nL cells slots Q en pc lv (st) := fun H locs ls hP hS hl => lv_aload_nN hC.1.1 hC.1.2.1 d hi (lv_at hl q hq) (k H locs ls hP hS hl)
theorem G_aload (hC : Ck p s m args c cc nL Ts own D cs sa n ad A) (i : Nat) (q : Nat) {x : Nat} (hq : lv[q]? = some (i, .ref x)) (d : decode cc pc = .ok (.aload i, 2)) (k : G p l e R s m args below meth c D n ad A nL cells slots Q en (pc + 2) lv (.ref x :: st)) : G p l e R s m args below meth c D n ad A nL cells slots Q en pc lv (st) := fun H locs ls hP hS hl => lv_aload hC.1.1 hC.1.2.1 d (lv_at hl q hq) (k H locs ls hP hS hl)
theorem G_null (hC : Ck p s m args c cc nL Ts own D cs sa n ad A)  (d : decode cc pc = .ok (.aconst_null, 1)) (k : G p l e R s m args below meth c D n ad A nL cells slots Q en (pc + 1) lv (.null :: st)) : G p l e R s m args below meth c D n ad A nL cells slots Q en pc lv (st) := fun H locs ls hP hS hl => lv_null hC.1.1 hC.1.2.1 d (k H locs ls hP hS hl)
theorem G_istore_n (hC : Ck p s m args c cc nL Ts own D cs sa n ad A) {f : Fin 4} (i : Nat) {x : Int32} (lv' : List (Nat × Value)) (hi : (f : Nat) = i) (hn : i < nL) (hl' : (i, Value.int x) :: lv.filter (fun q => !(q.1 == i) && !(q.1 + 1 == i && q.2.category == 2)) = lv') (d : decode cc pc = .ok (.istore_n f, 1)) (k : G p l e R s m args below meth c D n ad A nL cells slots Q en (pc + 1) lv' st) : G p l e R s m args below meth c D n ad A nL cells slots Q en pc lv (.int x :: st) := fun H locs ls hP hS hl => lv_istore_n hC.1.1 hC.1.2.1 d hi hl hn hl' (fun ls2 h2 => k H locs ls2 hP hS h2)
theorem G_istore (hC : Ck p s m args c cc nL Ts own D cs sa n ad A) (i : Nat) {x : Int32} (lv' : List (Nat × Value)) (hn : i < nL) (hl' : (i, Value.int x) :: lv.filter (fun q => !(q.1 == i) && !(q.1 + 1 == i && q.2.category == 2)) = lv') (d : decode cc pc = .ok (.istore i, 2)) (k : G p l e R s m args below meth c D n ad A nL cells slots Q en (pc + 2) lv' st) : G p l e R s m args below meth c D n ad A nL cells slots Q en pc lv (.int x :: st) := fun H locs ls hP hS hl => lv_istore hC.1.1 hC.1.2.1 d hl hn hl' (fun ls2 h2 => k H locs ls2 hP hS h2)
theorem G_lstore_n (hC : Ck p s m args c cc nL Ts own D cs sa n ad A) {f : Fin 4} (i : Nat) {x : Int64} (lv' : List (Nat × Value)) (hi : (f : Nat) = i) (hn : i + 1 < nL) (hl' : (i, Value.long x) :: lv.filter (fun q => !(q.1 == i) && (!(q.1 == i + 1) && !(q.1 + 1 == i && q.2.category == 2))) = lv') (d : decode cc pc = .ok (.lstore_n f, 1)) (k : G p l e R s m args below meth c D n ad A nL cells slots Q en (pc + 1) lv' st) : G p l e R s m args below meth c D n ad A nL cells slots Q en pc lv (.long x :: st) := fun H locs ls hP hS hl => lv_lstore_n hC.1.1 hC.1.2.1 d hi hl hn hl' (fun ls2 h2 => k H locs ls2 hP hS h2)
theorem G_lstore (hC : Ck p s m args c cc nL Ts own D cs sa n ad A) (i : Nat) {x : Int64} (lv' : List (Nat × Value)) (hn : i + 1 < nL) (hl' : (i, Value.long x) :: lv.filter (fun q => !(q.1 == i) && (!(q.1 == i + 1) && !(q.1 + 1 == i && q.2.category == 2))) = lv') (d : decode cc pc = .ok (.lstore i, 2)) (k : G p l e R s m args below meth c D n ad A nL cells slots Q en (pc + 2) lv' st) : G p l e R s m args below meth c D n ad A nL cells slots Q en pc lv (.long x :: st) := fun H locs ls hP hS hl => lv_lstore hC.1.1 hC.1.2.1 d hl hn hl' (fun ls2 h2 => k H locs ls2 hP hS h2)
theorem G_astore_n (hC : Ck p s m args c cc nL Ts own D cs sa n ad A) {f : Fin 4} (i : Nat) {x : Nat} (lv' : List (Nat × Value)) (hi : (f : Nat) = i) (hn : i < nL) (hl' : (i, Value.ref x) :: lv.filter (fun q => !(q.1 == i) && !(q.1 + 1 == i && q.2.category == 2)) = lv') (d : decode cc pc = .ok (.astore_n f, 1)) (k : G p l e R s m args below meth c D n ad A nL cells slots Q en (pc + 1) lv' st) : G p l e R s m args below meth c D n ad A nL cells slots Q en pc lv (.ref x :: st) := fun H locs ls hP hS hl => lv_astore_n hC.1.1 hC.1.2.1 d hi hl hn hl' (fun ls2 h2 => k H locs ls2 hP hS h2)
theorem G_astore (hC : Ck p s m args c cc nL Ts own D cs sa n ad A) (i : Nat) {x : Nat} (lv' : List (Nat × Value)) (hn : i < nL) (hl' : (i, Value.ref x) :: lv.filter (fun q => !(q.1 == i) && !(q.1 + 1 == i && q.2.category == 2)) = lv') (d : decode cc pc = .ok (.astore i, 2)) (k : G p l e R s m args below meth c D n ad A nL cells slots Q en (pc + 2) lv' st) : G p l e R s m args below meth c D n ad A nL cells slots Q en pc lv (.ref x :: st) := fun H locs ls hP hS hl => lv_astore hC.1.1 hC.1.2.1 d hl hn hl' (fun ls2 h2 => k H locs ls2 hP hS h2)
theorem G_astore_nN (hC : Ck p s m args c cc nL Ts own D cs sa n ad A) {f : Fin 4} (i : Nat) (lv' : List (Nat × Value)) (hi : (f : Nat) = i) (hn : i < nL) (hl' : (i, Value.null) :: lv.filter (fun q => !(q.1 == i) && !(q.1 + 1 == i && q.2.category == 2)) = lv') (d : decode cc pc = .ok (.astore_n f, 1)) (k : G p l e R s m args below meth c D n ad A nL cells slots Q en (pc + 1) lv' st) : G p l e R s m args below meth c D n ad A nL cells slots Q en pc lv (.null :: st) := fun H locs ls hP hS hl => lv_astore_nN hC.1.1 hC.1.2.1 d hi hl hn hl' (fun ls2 h2 => k H locs ls2 hP hS h2)
theorem G_iinc (hC : Ck p s m args c cc nL Ts own D cs sa n ad A) (i q : Nat) {z : Int} {x v : Int32} (lv' : List (Nat × Value)) (hq : lv[q]? = some (i, .int x)) (hv : x + Int32.ofInt z = v) (hn : i < nL) (hl' : (i, Value.int v) :: lv.filter (fun q => !(q.1 == i) && !(q.1 + 1 == i && q.2.category == 2)) = lv') (d : decode cc pc = .ok (.iinc i z, 3)) (k : G p l e R s m args below meth c D n ad A nL cells slots Q en (pc + 3) lv' st) : G p l e R s m args below meth c D n ad A nL cells slots Q en pc lv st := fun H locs ls hP hS hl => lv_iinc hC.1.1 hC.1.2.1 d hl hq hv hn hl' (fun ls2 h2 => k H locs ls2 hP hS h2)
theorem G_iadd (hC : Ck p s m args c cc nL Ts own D cs sa n ad A) {x y : Int32} (d : decode cc pc = .ok (.iadd, 1)) (k : G p l e R s m args below meth c D n ad A nL cells slots Q en (pc + 1) lv (.int (x + y) :: st)) : G p l e R s m args below meth c D n ad A nL cells slots Q en pc lv (.int y :: .int x :: st) := fun H locs ls hP hS hl => lv_iadd hC.1.1 hC.1.2.1 d (k H locs ls hP hS hl)
theorem G_isub (hC : Ck p s m args c cc nL Ts own D cs sa n ad A) {x y : Int32} (d : decode cc pc = .ok (.isub, 1)) (k : G p l e R s m args below meth c D n ad A nL cells slots Q en (pc + 1) lv (.int (x - y) :: st)) : G p l e R s m args below meth c D n ad A nL cells slots Q en pc lv (.int y :: .int x :: st) := fun H locs ls hP hS hl => lv_isub hC.1.1 hC.1.2.1 d (k H locs ls hP hS hl)
theorem G_imul (hC : Ck p s m args c cc nL Ts own D cs sa n ad A) {x y : Int32} (d : decode cc pc = .ok (.imul, 1)) (k : G p l e R s m args below meth c D n ad A nL cells slots Q en (pc + 1) lv (.int (x * y) :: st)) : G p l e R s m args below meth c D n ad A nL cells slots Q en pc lv (.int y :: .int x :: st) := fun H locs ls hP hS hl => lv_imul hC.1.1 hC.1.2.1 d (k H locs ls hP hS hl)
theorem G_iand (hC : Ck p s m args c cc nL Ts own D cs sa n ad A) {x y : Int32} (d : decode cc pc = .ok (.iand, 1)) (k : G p l e R s m args below meth c D n ad A nL cells slots Q en (pc + 1) lv (.int (x &&& y) :: st)) : G p l e R s m args below meth c D n ad A nL cells slots Q en pc lv (.int y :: .int x :: st) := fun H locs ls hP hS hl => lv_iand hC.1.1 hC.1.2.1 d (k H locs ls hP hS hl)
theorem G_ior (hC : Ck p s m args c cc nL Ts own D cs sa n ad A) {x y : Int32} (d : decode cc pc = .ok (.ior, 1)) (k : G p l e R s m args below meth c D n ad A nL cells slots Q en (pc + 1) lv (.int (x ||| y) :: st)) : G p l e R s m args below meth c D n ad A nL cells slots Q en pc lv (.int y :: .int x :: st) := fun H locs ls hP hS hl => lv_ior hC.1.1 hC.1.2.1 d (k H locs ls hP hS hl)
theorem G_ishl (hC : Ck p s m args c cc nL Ts own D cs sa n ad A) {x y : Int32} (d : decode cc pc = .ok (.ishl, 1)) (k : G p l e R s m args below meth c D n ad A nL cells slots Q en (pc + 1) lv (.int (x <<< (y &&& 31)) :: st)) : G p l e R s m args below meth c D n ad A nL cells slots Q en pc lv (.int y :: .int x :: st) := fun H locs ls hP hS hl => lv_ishl hC.1.1 hC.1.2.1 d (k H locs ls hP hS hl)
theorem G_ishr (hC : Ck p s m args c cc nL Ts own D cs sa n ad A) {x y : Int32} (d : decode cc pc = .ok (.ishr, 1)) (k : G p l e R s m args below meth c D n ad A nL cells slots Q en (pc + 1) lv (.int (x >>> (y &&& 31)) :: st)) : G p l e R s m args below meth c D n ad A nL cells slots Q en pc lv (.int y :: .int x :: st) := fun H locs ls hP hS hl => lv_ishr hC.1.1 hC.1.2.1 d (k H locs ls hP hS hl)
theorem G_ladd (hC : Ck p s m args c cc nL Ts own D cs sa n ad A) {x y : Int64} (d : decode cc pc = .ok (.ladd, 1)) (k : G p l e R s m args below meth c D n ad A nL cells slots Q en (pc + 1) lv (.long (x + y) :: st)) : G p l e R s m args below meth c D n ad A nL cells slots Q en pc lv (.long y :: .long x :: st) := fun H locs ls hP hS hl => lv_ladd hC.1.1 hC.1.2.1 d (k H locs ls hP hS hl)
theorem G_lsub (hC : Ck p s m args c cc nL Ts own D cs sa n ad A) {x y : Int64} (d : decode cc pc = .ok (.lsub, 1)) (k : G p l e R s m args below meth c D n ad A nL cells slots Q en (pc + 1) lv (.long (x - y) :: st)) : G p l e R s m args below meth c D n ad A nL cells slots Q en pc lv (.long y :: .long x :: st) := fun H locs ls hP hS hl => lv_lsub hC.1.1 hC.1.2.1 d (k H locs ls hP hS hl)
theorem G_lmul (hC : Ck p s m args c cc nL Ts own D cs sa n ad A) {x y : Int64} (d : decode cc pc = .ok (.lmul, 1)) (k : G p l e R s m args below meth c D n ad A nL cells slots Q en (pc + 1) lv (.long (x * y) :: st)) : G p l e R s m args below meth c D n ad A nL cells slots Q en pc lv (.long y :: .long x :: st) := fun H locs ls hP hS hl => lv_lmul hC.1.1 hC.1.2.1 d (k H locs ls hP hS hl)
theorem G_land (hC : Ck p s m args c cc nL Ts own D cs sa n ad A) {x y : Int64} (d : decode cc pc = .ok (.land, 1)) (k : G p l e R s m args below meth c D n ad A nL cells slots Q en (pc + 1) lv (.long (x &&& y) :: st)) : G p l e R s m args below meth c D n ad A nL cells slots Q en pc lv (.long y :: .long x :: st) := fun H locs ls hP hS hl => lv_land hC.1.1 hC.1.2.1 d (k H locs ls hP hS hl)
theorem G_lor (hC : Ck p s m args c cc nL Ts own D cs sa n ad A) {x y : Int64} (d : decode cc pc = .ok (.lor, 1)) (k : G p l e R s m args below meth c D n ad A nL cells slots Q en (pc + 1) lv (.long (x ||| y) :: st)) : G p l e R s m args below meth c D n ad A nL cells slots Q en pc lv (.long y :: .long x :: st) := fun H locs ls hP hS hl => lv_lor hC.1.1 hC.1.2.1 d (k H locs ls hP hS hl)
theorem G_idiv (hC : Ck p s m args c cc nL Ts own D cs sa n ad A) {x y : Int32} (hne : ¬ y = 0) (d : decode cc pc = .ok (.idiv, 1)) (k : G p l e R s m args below meth c D n ad A nL cells slots Q en (pc + 1) lv (.int (x / y) :: st)) : G p l e R s m args below meth c D n ad A nL cells slots Q en pc lv (.int y :: .int x :: st) := fun H locs ls hP hS hl => lv_idiv hC.1.1 hC.1.2.1 d hne (k H locs ls hP hS hl)
theorem G_irem (hC : Ck p s m args c cc nL Ts own D cs sa n ad A) {x y : Int32} (hne : ¬ y = 0) (d : decode cc pc = .ok (.irem, 1)) (k : G p l e R s m args below meth c D n ad A nL cells slots Q en (pc + 1) lv (.int (irm x y) :: st)) : G p l e R s m args below meth c D n ad A nL cells slots Q en pc lv (.int y :: .int x :: st) := fun H locs ls hP hS hl => lv_irem hC.1.1 hC.1.2.1 d hne (k H locs ls hP hS hl)
theorem G_ldiv (hC : Ck p s m args c cc nL Ts own D cs sa n ad A) {x y : Int64} (hne : ¬ y = 0) (d : decode cc pc = .ok (.ldiv, 1)) (k : G p l e R s m args below meth c D n ad A nL cells slots Q en (pc + 1) lv (.long (x / y) :: st)) : G p l e R s m args below meth c D n ad A nL cells slots Q en pc lv (.long y :: .long x :: st) := fun H locs ls hP hS hl => lv_ldiv hC.1.1 hC.1.2.1 d hne (k H locs ls hP hS hl)
theorem G_lrem (hC : Ck p s m args c cc nL Ts own D cs sa n ad A) {x y : Int64} (hne : ¬ y = 0) (d : decode cc pc = .ok (.lrem, 1)) (k : G p l e R s m args below meth c D n ad A nL cells slots Q en (pc + 1) lv (.long (lrm x y) :: st)) : G p l e R s m args below meth c D n ad A nL cells slots Q en pc lv (.long y :: .long x :: st) := fun H locs ls hP hS hl => lv_lrem hC.1.1 hC.1.2.1 d hne (k H locs ls hP hS hl)
theorem G_iushr (hC : Ck p s m args c cc nL Ts own D cs sa n ad A) {x y : Int32} (d : decode cc pc = .ok (.iushr, 1)) (k : G p l e R s m args below meth c D n ad A nL cells slots Q en (pc + 1) lv (.int ((x.toUInt32 >>> (y.toUInt32 &&& Int32.toUInt32 31)).toInt32) :: st)) : G p l e R s m args below meth c D n ad A nL cells slots Q en pc lv (.int y :: .int x :: st) := fun H locs ls hP hS hl => lv_iushr hC.1.1 hC.1.2.1 d rfl (k H locs ls hP hS hl)
theorem G_lshl (hC : Ck p s m args c cc nL Ts own D cs sa n ad A) {x : Int64} {y : Int32} (d : decode cc pc = .ok (.lshl, 1)) (k : G p l e R s m args below meth c D n ad A nL cells slots Q en (pc + 1) lv (.long (x <<< (y.toInt64 &&& 63)) :: st)) : G p l e R s m args below meth c D n ad A nL cells slots Q en pc lv (.int y :: .long x :: st) := fun H locs ls hP hS hl => lv_lshl hC.1.1 hC.1.2.1 d rfl (k H locs ls hP hS hl)
theorem G_lshr (hC : Ck p s m args c cc nL Ts own D cs sa n ad A) {x : Int64} {y : Int32} (d : decode cc pc = .ok (.lshr, 1)) (k : G p l e R s m args below meth c D n ad A nL cells slots Q en (pc + 1) lv (.long (x >>> (y.toInt64 &&& 63)) :: st)) : G p l e R s m args below meth c D n ad A nL cells slots Q en pc lv (.int y :: .long x :: st) := fun H locs ls hP hS hl => lv_lshr hC.1.1 hC.1.2.1 d rfl (k H locs ls hP hS hl)
theorem G_i2l (hC : Ck p s m args c cc nL Ts own D cs sa n ad A) {x : Int32} (d : decode cc pc = .ok (.i2l, 1)) (k : G p l e R s m args below meth c D n ad A nL cells slots Q en (pc + 1) lv (.long x.toInt64 :: st)) : G p l e R s m args below meth c D n ad A nL cells slots Q en pc lv (.int x :: st) := fun H locs ls hP hS hl => lv_i2l hC.1.1 hC.1.2.1 d rfl (k H locs ls hP hS hl)
theorem G_l2i (hC : Ck p s m args c cc nL Ts own D cs sa n ad A) {x : Int64} (d : decode cc pc = .ok (.l2i, 1)) (k : G p l e R s m args below meth c D n ad A nL cells slots Q en (pc + 1) lv (.int x.toInt32 :: st)) : G p l e R s m args below meth c D n ad A nL cells slots Q en pc lv (.long x :: st) := fun H locs ls hP hS hl => lv_l2i hC.1.1 hC.1.2.1 d rfl (k H locs ls hP hS hl)
theorem G_i2b (hC : Ck p s m args c cc nL Ts own D cs sa n ad A) {x : Int32} (d : decode cc pc = .ok (.i2b, 1)) (k : G p l e R s m args below meth c D n ad A nL cells slots Q en (pc + 1) lv (.int x.toInt8.toInt32 :: st)) : G p l e R s m args below meth c D n ad A nL cells slots Q en pc lv (.int x :: st) := fun H locs ls hP hS hl => lv_i2b hC.1.1 hC.1.2.1 d rfl (k H locs ls hP hS hl)
theorem G_i2c (hC : Ck p s m args c cc nL Ts own D cs sa n ad A) {x : Int32} (d : decode cc pc = .ok (.i2c, 1)) (k : G p l e R s m args below meth c D n ad A nL cells slots Q en (pc + 1) lv (.int ((x.toUInt32 % 65536).toInt32) :: st)) : G p l e R s m args below meth c D n ad A nL cells slots Q en pc lv (.int x :: st) := fun H locs ls hP hS hl => lv_i2c hC.1.1 hC.1.2.1 d rfl (k H locs ls hP hS hl)
theorem G_lcmp (hC : Ck p s m args c cc nL Ts own D cs sa n ad A) {x y : Int64} (d : decode cc pc = .ok (.lcmp, 1)) (k : G p l e R s m args below meth c D n ad A nL cells slots Q en (pc + 1) lv (.int (lg_cmp x y) :: st)) : G p l e R s m args below meth c D n ad A nL cells slots Q en pc lv (.long y :: .long x :: st) := fun H locs ls hP hS hl => W.lcmp hC.1.1 hC.1.2.1 d (k H locs ls hP hS hl)
theorem G_dup (hC : Ck p s m args c cc nL Ts own D cs sa n ad A) {va : Value} (hva : va.category = 1) (d : decode cc pc = .ok (.dup, 1)) (k : G p l e R s m args below meth c D n ad A nL cells slots Q en (pc + 1) lv (va :: va :: st)) : G p l e R s m args below meth c D n ad A nL cells slots Q en pc lv (va :: st) := fun H locs ls hP hS hl => lv_dup hC.1.1 hC.1.2.1 d hva (k H locs ls hP hS hl)
theorem G_pop (hC : Ck p s m args c cc nL Ts own D cs sa n ad A) {va : Value} (hva : va.category = 1) (d : decode cc pc = .ok (.pop, 1)) (k : G p l e R s m args below meth c D n ad A nL cells slots Q en (pc + 1) lv (st)) : G p l e R s m args below meth c D n ad A nL cells slots Q en pc lv (va :: st) := fun H locs ls hP hS hl => lv_pop hC.1.1 hC.1.2.1 d hva (k H locs ls hP hS hl)
theorem G_dup2_11 (hC : Ck p s m args c cc nL Ts own D cs sa n ad A) {va vb : Value} (hva : va.category = 1) (hvb : vb.category = 1) (d : decode cc pc = .ok (.dup2, 1)) (k : G p l e R s m args below meth c D n ad A nL cells slots Q en (pc + 1) lv (va :: vb :: va :: vb :: st)) : G p l e R s m args below meth c D n ad A nL cells slots Q en pc lv (va :: vb :: st) := fun H locs ls hP hS hl => lv_dup2_11 hC.1.1 hC.1.2.1 d hva hvb (k H locs ls hP hS hl)
theorem G_dup2_2 (hC : Ck p s m args c cc nL Ts own D cs sa n ad A) {va : Value} (hva : va.category = 2) (d : decode cc pc = .ok (.dup2, 1)) (k : G p l e R s m args below meth c D n ad A nL cells slots Q en (pc + 1) lv (va :: va :: st)) : G p l e R s m args below meth c D n ad A nL cells slots Q en pc lv (va :: st) := fun H locs ls hP hS hl => lv_dup2_2 hC.1.1 hC.1.2.1 d hva (k H locs ls hP hS hl)
theorem G_if_eq (hC : Ck p s m args c cc nL Ts own D cs sa n ad A) {x : Int32} {off : Int} (tgt : Nat) (d : decode cc pc = .ok (.ifCond .eq off, 3)) (ht : (pc : Int) + off = (tgt : Int)) (kt : x = 0 → G p l e R s m args below meth c D n ad A nL cells slots Q en tgt lv st) (kf : ¬ (x = 0) → G p l e R s m args below meth c D n ad A nL cells slots Q en (pc + 3) lv st) : G p l e R s m args below meth c D n ad A nL cells slots Q en pc lv (.int x :: st) := fun H locs ls hP hS hl => lv_if_eq hC.1.1 hC.1.2.1 d ht (fun q => kt q H locs ls hP hS hl) (fun q => kf q H locs ls hP hS hl)
theorem G_if_ne (hC : Ck p s m args c cc nL Ts own D cs sa n ad A) {x : Int32} {off : Int} (tgt : Nat) (d : decode cc pc = .ok (.ifCond .ne off, 3)) (ht : (pc : Int) + off = (tgt : Int)) (kt : ¬ (x = 0) → G p l e R s m args below meth c D n ad A nL cells slots Q en tgt lv st) (kf : x = 0 → G p l e R s m args below meth c D n ad A nL cells slots Q en (pc + 3) lv st) : G p l e R s m args below meth c D n ad A nL cells slots Q en pc lv (.int x :: st) := fun H locs ls hP hS hl => lv_if_ne hC.1.1 hC.1.2.1 d ht (fun q => kt q H locs ls hP hS hl) (fun q => kf q H locs ls hP hS hl)
theorem G_if_lt (hC : Ck p s m args c cc nL Ts own D cs sa n ad A) {x : Int32} {off : Int} (tgt : Nat) (d : decode cc pc = .ok (.ifCond .lt off, 3)) (ht : (pc : Int) + off = (tgt : Int)) (kt : x < 0 → G p l e R s m args below meth c D n ad A nL cells slots Q en tgt lv st) (kf : ¬ (x < 0) → G p l e R s m args below meth c D n ad A nL cells slots Q en (pc + 3) lv st) : G p l e R s m args below meth c D n ad A nL cells slots Q en pc lv (.int x :: st) := fun H locs ls hP hS hl => lv_if_lt hC.1.1 hC.1.2.1 d ht (fun q => kt q H locs ls hP hS hl) (fun q => kf q H locs ls hP hS hl)
theorem G_if_ge (hC : Ck p s m args c cc nL Ts own D cs sa n ad A) {x : Int32} {off : Int} (tgt : Nat) (d : decode cc pc = .ok (.ifCond .ge off, 3)) (ht : (pc : Int) + off = (tgt : Int)) (kt : 0 ≤ x → G p l e R s m args below meth c D n ad A nL cells slots Q en tgt lv st) (kf : ¬ (0 ≤ x) → G p l e R s m args below meth c D n ad A nL cells slots Q en (pc + 3) lv st) : G p l e R s m args below meth c D n ad A nL cells slots Q en pc lv (.int x :: st) := fun H locs ls hP hS hl => lv_if_ge hC.1.1 hC.1.2.1 d ht (fun q => kt q H locs ls hP hS hl) (fun q => kf q H locs ls hP hS hl)
theorem G_if_gt (hC : Ck p s m args c cc nL Ts own D cs sa n ad A) {x : Int32} {off : Int} (tgt : Nat) (d : decode cc pc = .ok (.ifCond .gt off, 3)) (ht : (pc : Int) + off = (tgt : Int)) (kt : 0 < x → G p l e R s m args below meth c D n ad A nL cells slots Q en tgt lv st) (kf : ¬ (0 < x) → G p l e R s m args below meth c D n ad A nL cells slots Q en (pc + 3) lv st) : G p l e R s m args below meth c D n ad A nL cells slots Q en pc lv (.int x :: st) := fun H locs ls hP hS hl => lv_if_gt hC.1.1 hC.1.2.1 d ht (fun q => kt q H locs ls hP hS hl) (fun q => kf q H locs ls hP hS hl)
theorem G_if_le (hC : Ck p s m args c cc nL Ts own D cs sa n ad A) {x : Int32} {off : Int} (tgt : Nat) (d : decode cc pc = .ok (.ifCond .le off, 3)) (ht : (pc : Int) + off = (tgt : Int)) (kt : x ≤ 0 → G p l e R s m args below meth c D n ad A nL cells slots Q en tgt lv st) (kf : ¬ (x ≤ 0) → G p l e R s m args below meth c D n ad A nL cells slots Q en (pc + 3) lv st) : G p l e R s m args below meth c D n ad A nL cells slots Q en pc lv (.int x :: st) := fun H locs ls hP hS hl => lv_if_le hC.1.1 hC.1.2.1 d ht (fun q => kt q H locs ls hP hS hl) (fun q => kf q H locs ls hP hS hl)
theorem G_icmp_eq (hC : Ck p s m args c cc nL Ts own D cs sa n ad A) {x y : Int32} {off : Int} (tgt : Nat) (d : decode cc pc = .ok (.if_icmp .eq off, 3)) (ht : (pc : Int) + off = (tgt : Int)) (kt : x = y → G p l e R s m args below meth c D n ad A nL cells slots Q en tgt lv st) (kf : ¬ (x = y) → G p l e R s m args below meth c D n ad A nL cells slots Q en (pc + 3) lv st) : G p l e R s m args below meth c D n ad A nL cells slots Q en pc lv (.int y :: .int x :: st) := fun H locs ls hP hS hl => lv_icmp_eq hC.1.1 hC.1.2.1 d ht (fun q => kt q H locs ls hP hS hl) (fun q => kf q H locs ls hP hS hl)
theorem G_icmp_ne (hC : Ck p s m args c cc nL Ts own D cs sa n ad A) {x y : Int32} {off : Int} (tgt : Nat) (d : decode cc pc = .ok (.if_icmp .ne off, 3)) (ht : (pc : Int) + off = (tgt : Int)) (kt : ¬ (x = y) → G p l e R s m args below meth c D n ad A nL cells slots Q en tgt lv st) (kf : x = y → G p l e R s m args below meth c D n ad A nL cells slots Q en (pc + 3) lv st) : G p l e R s m args below meth c D n ad A nL cells slots Q en pc lv (.int y :: .int x :: st) := fun H locs ls hP hS hl => lv_icmp_ne hC.1.1 hC.1.2.1 d ht (fun q => kt q H locs ls hP hS hl) (fun q => kf q H locs ls hP hS hl)
theorem G_icmp_lt (hC : Ck p s m args c cc nL Ts own D cs sa n ad A) {x y : Int32} {off : Int} (tgt : Nat) (d : decode cc pc = .ok (.if_icmp .lt off, 3)) (ht : (pc : Int) + off = (tgt : Int)) (kt : x < y → G p l e R s m args below meth c D n ad A nL cells slots Q en tgt lv st) (kf : ¬ (x < y) → G p l e R s m args below meth c D n ad A nL cells slots Q en (pc + 3) lv st) : G p l e R s m args below meth c D n ad A nL cells slots Q en pc lv (.int y :: .int x :: st) := fun H locs ls hP hS hl => lv_icmp_lt hC.1.1 hC.1.2.1 d ht (fun q => kt q H locs ls hP hS hl) (fun q => kf q H locs ls hP hS hl)
theorem G_icmp_ge (hC : Ck p s m args c cc nL Ts own D cs sa n ad A) {x y : Int32} {off : Int} (tgt : Nat) (d : decode cc pc = .ok (.if_icmp .ge off, 3)) (ht : (pc : Int) + off = (tgt : Int)) (kt : y ≤ x → G p l e R s m args below meth c D n ad A nL cells slots Q en tgt lv st) (kf : ¬ (y ≤ x) → G p l e R s m args below meth c D n ad A nL cells slots Q en (pc + 3) lv st) : G p l e R s m args below meth c D n ad A nL cells slots Q en pc lv (.int y :: .int x :: st) := fun H locs ls hP hS hl => lv_icmp_ge hC.1.1 hC.1.2.1 d ht (fun q => kt q H locs ls hP hS hl) (fun q => kf q H locs ls hP hS hl)
theorem G_icmp_gt (hC : Ck p s m args c cc nL Ts own D cs sa n ad A) {x y : Int32} {off : Int} (tgt : Nat) (d : decode cc pc = .ok (.if_icmp .gt off, 3)) (ht : (pc : Int) + off = (tgt : Int)) (kt : y < x → G p l e R s m args below meth c D n ad A nL cells slots Q en tgt lv st) (kf : ¬ (y < x) → G p l e R s m args below meth c D n ad A nL cells slots Q en (pc + 3) lv st) : G p l e R s m args below meth c D n ad A nL cells slots Q en pc lv (.int y :: .int x :: st) := fun H locs ls hP hS hl => lv_icmp_gt hC.1.1 hC.1.2.1 d ht (fun q => kt q H locs ls hP hS hl) (fun q => kf q H locs ls hP hS hl)
theorem G_icmp_le (hC : Ck p s m args c cc nL Ts own D cs sa n ad A) {x y : Int32} {off : Int} (tgt : Nat) (d : decode cc pc = .ok (.if_icmp .le off, 3)) (ht : (pc : Int) + off = (tgt : Int)) (kt : x ≤ y → G p l e R s m args below meth c D n ad A nL cells slots Q en tgt lv st) (kf : ¬ (x ≤ y) → G p l e R s m args below meth c D n ad A nL cells slots Q en (pc + 3) lv st) : G p l e R s m args below meth c D n ad A nL cells slots Q en pc lv (.int y :: .int x :: st) := fun H locs ls hP hS hl => lv_icmp_le hC.1.1 hC.1.2.1 d ht (fun q => kt q H locs ls hP hS hl) (fun q => kf q H locs ls hP hS hl)
theorem G_goto (hC : Ck p s m args c cc nL Ts own D cs sa n ad A) {off : Int} (tgt : Nat) (d : decode cc pc = .ok (.goto off, 3)) (ht : (pc : Int) + off = (tgt : Int)) (k : G p l e R s m args below meth c D n ad A nL cells slots Q en tgt lv st) : G p l e R s m args below meth c D n ad A nL cells slots Q en pc lv st := fun H locs ls hP hS hl => lv_goto hC.1.1 hC.1.2.1 d ht (k H locs ls hP hS hl)
theorem G_ifnonnull (hC : Ck p s m args c cc nL Ts own D cs sa n ad A) {x : Nat} {off : Int} (tgt : Nat) (d : decode cc pc = .ok (.ifnonnull off, 3)) (ht : (pc : Int) + off = (tgt : Int)) (k : G p l e R s m args below meth c D n ad A nL cells slots Q en tgt lv st) : G p l e R s m args below meth c D n ad A nL cells slots Q en pc lv (.ref x :: st) := fun H locs ls hP hS hl => lv_ifnonnull hC.1.1 hC.1.2.1 d ht (k H locs ls hP hS hl)
theorem G_ifnull (hC : Ck p s m args c cc nL Ts own D cs sa n ad A) {x : Nat} {off : Int} (d : decode cc pc = .ok (.ifnull off, 3)) (k : G p l e R s m args below meth c D n ad A nL cells slots Q en (pc + 3) lv st) : G p l e R s m args below meth c D n ad A nL cells slots Q en pc lv (.ref x :: st) := fun H locs ls hP hS hl => lv_ifnull hC.1.1 hC.1.2.1 d (k H locs ls hP hS hl)
theorem G_ifnullN (hC : Ck p s m args c cc nL Ts own D cs sa n ad A) {off : Int} (tgt : Nat) (d : decode cc pc = .ok (.ifnull off, 3)) (ht : (pc : Int) + off = (tgt : Int)) (k : G p l e R s m args below meth c D n ad A nL cells slots Q en tgt lv st) : G p l e R s m args below meth c D n ad A nL cells slots Q en pc lv (.null :: st) := fun H locs ls hP hS hl => lv_ifnullN hC.1.1 hC.1.2.1 d ht (k H locs ls hP hS hl)
theorem G_ifnonnullN (hC : Ck p s m args c cc nL Ts own D cs sa n ad A) {off : Int} (d : decode cc pc = .ok (.ifnonnull off, 3)) (k : G p l e R s m args below meth c D n ad A nL cells slots Q en (pc + 3) lv st) : G p l e R s m args below meth c D n ad A nL cells slots Q en pc lv (.null :: st) := fun H locs ls hP hS hl => lv_ifnonnullN hC.1.1 hC.1.2.1 d (k H locs ls hP hS hl)
theorem G_tabOut (hC : Ck p s m args c cc nL Ts own D cs sa n ad A) {dflt lo hi : Int} {offs : Array Int} {len : Nat} {x : Int32} (tgt : Nat) (d : decode cc pc = .ok (.tableswitch dflt lo hi offs, len)) (hr : x.toInt < lo ∨ hi < x.toInt) (ht : (pc : Int) + dflt = (tgt : Int)) (k : G p l e R s m args below meth c D n ad A nL cells slots Q en tgt lv st) : G p l e R s m args below meth c D n ad A nL cells slots Q en pc lv (.int x :: st) := fun H locs ls hP hS hl => lv_tableOut hC.1.1 hC.1.2.1 d hr ht (k H locs ls hP hS hl)
theorem G_tabIn (hC : Ck p s m args c cc nL Ts own D cs sa n ad A) {dflt lo hi : Int} {offs : Array Int} {len : Nat} {x : Int32} {off : Int} (tgt : Nat) (d : decode cc pc = .ok (.tableswitch dflt lo hi offs, len)) (h1 : ¬ x.toInt < lo) (h2 : ¬ hi < x.toInt) (ho : offs[(x.toInt - lo).toNat]? = some off) (ht : (pc : Int) + off = (tgt : Int)) (k : G p l e R s m args below meth c D n ad A nL cells slots Q en tgt lv st) : G p l e R s m args below meth c D n ad A nL cells slots Q en pc lv (.int x :: st) := fun H locs ls hP hS hl => lv_tableIn hC.1.1 hC.1.2.1 d h1 h2 ho ht (k H locs ls hP hS hl)
theorem G_lv {lv' : List (Nat × Value)} (ks : List Nat) (hp : lv_pick lv ks = lv') (k : G p l e R s m args below meth c D n ad A nL cells slots Q en pc lv' st) : G p l e R s m args below meth c D n ad A nL cells slots Q en pc lv st := fun H locs ls hP hS hl => k H locs ls hP hS (lv_sub hl ks hp)
theorem G_eq {lv' : List (Nat × Value)} {st' : List Value} {en' : Nat → va_E} (h1 : lv = lv') (h2 : st = st') (h3 : ∀ k, k < n → en k = en' k) (k : G p l e R s m args below meth c D n ad A nL cells slots Q en' pc lv' st') : G p l e R s m args below meth c D n ad A nL cells slots Q en pc lv st := fun H locs ls hP hS hl => by subst h1 h2; exact k H locs ls (by rw [← wl_congr h3]; exact hP) hS hl
theorem G_get (hC : Ck p s m args c cc nL Ts own D cs sa n ad A) {C ref : String} {T : u_T} {N ci index : Nat} {fs : List Value} {v : Value} (hin : ∀ w ∈ u_ws C T N, w ∈ Ts) (q : Nat) (hq : q < n) (he : en q = .inr (ci, fs)) (hc : vwCl[ci]? = some (C, T, N)) (j : Nat) (hj : j < N) (hlink : Cond.fieldLink own index ref (T j).2.1 (T j).2.2.1 ∈ Ts) (hs : (T j).1 = ref) (hv : fs[j]? = some v) (d : decode cc pc = .ok (.getfield index, 3)) (k : G p l e R s m args below meth c D n ad A nL cells slots Q en (pc + 3) lv (v :: st)) : G p l e R s m args below meth c D n ad A nL cells slots Q en pc lv (.ref (ad q) :: st) := fun H locs ls hP hS hl => va_get hC.1.1 hC.1.2.1 hC.hts hin hC.1.2.2.2.1 hC.2.1 hP q (wl_at hq he) hc j hj (hC.hts _ hlink) (fun x hx => by rw [← hs]; exact hx) hv d (k H locs ls hP hS hl)
theorem G_put (hC : Ck p s m args c cc nL Ts own D cs sa n ad A) {C ref : String} {T : u_T} {N ci index : Nat} {fs : List Value} {v : Value} {ty : FieldType} (hin : ∀ w ∈ u_ws C T N, w ∈ Ts) (ty0 : Nat → FieldType) (hty : ∀ k, k < N → parseFieldDescriptor (T k).2.2.1 = some (ty0 k)) (hnm : ∀ a, a < N → ∀ b, b < N → a ≠ b → (T a).2.1 ≠ (T b).2.1) (q : Nat) (hq : q < n) (he : en q = .inr (ci, fs)) (hc : vwCl[ci]? = some (C, T, N)) (j : Nat) (hj : j < N) (hlink : Cond.fieldLink own index ref (T j).2.1 (T j).2.2.1 ∈ Ts) (hs : (T j).1 = ref) (hfin : (T j).2.2.2 = false) (hty1 : ty0 j = ty) (hn : narrow ty v = v) (hfit : fits ty v = true) (hlen : j < fs.length) (d : decode cc pc = .ok (.putfield index, 3)) (k : ∀ u : Nat → va_E, u q = .inr (ci, fs.set j v) → (∀ j, j ≠ q → u j = en j) → G p l e R s m args below meth c D n ad A nL cells slots Q u (pc + 3) lv st) : G p l e R s m args below meth c D n ad A nL cells slots Q en pc lv (v :: .ref (ad q) :: st) := fun H locs ls hP hS hl => va_put hC.1.1 hC.1.2.1 hC.hts hin ty0 hty hnm hC.1.2.2.2.1 hC.2.1 hP (hC.2.2.1.w en) hS q (wl_at hq he) hc j hj (hC.hts _ hlink) (fun x hx => by rw [← hs]; exact hx) hfin (by rw [← hty1]; exact hty j hj) hn hfit hlen d (fun H1 locs1 hP1 _ hS1 => k _ (va_up_self _ _ _) (fun j hj => va_up_ne _ _ hj) H1 locs1 ls (by rw [← wl_set]; exact hP1) hS1 hl)
theorem G_putF (hC : Ck p s m args c cc nL Ts own D cs sa n ad A) {C ref : String} {T : u_T} {N ci index : Nat} {fs : List Value} {v : Value} {ty : FieldType} (hin : ∀ w ∈ u_ws C T N, w ∈ Ts) (ty0 : Nat → FieldType) (hty : ∀ k, k < N → parseFieldDescriptor (T k).2.2.1 = some (ty0 k)) (hnm : ∀ a, a < N → ∀ b, b < N → a ≠ b → (T a).2.1 ≠ (T b).2.1) (q : Nat) (hq : q < n) (he : en q = .inr (ci, fs)) (hc : vwCl[ci]? = some (C, T, N)) (j : Nat) (hj : j < N) (hlink : Cond.fieldLink own index ref (T j).2.1 (T j).2.2.1 ∈ Ts) (hs : (T j).1 = ref) (hfin : (T j).2.2.2 = true) (hini : meth.name = "<init>") (hdecl : (T j).1 = own) (hty1 : ty0 j = ty) (hn : narrow ty v = v) (hfit : fits ty v = true) (hlen : j < fs.length) (d : decode cc pc = .ok (.putfield index, 3)) (k : ∀ u : Nat → va_E, u q = .inr (ci, fs.set j v) → (∀ j, j ≠ q → u j = en j) → G p l e R s m args below meth c D n ad A nL cells slots Q u (pc + 3) lv st) : G p l e R s m args below meth c D n ad A nL cells slots Q en pc lv (v :: .ref (ad q) :: st) := fun H locs ls hP hS hl => va_putF hC.1.1 hC.1.2.1 hC.hts hin ty0 hty hnm hC.1.2.2.2.1 hC.2.1 hP (hC.2.2.1.w en) hS q (wl_at hq he) hc j hj (hC.hts _ hlink) (fun x hx => by rw [← hs]; exact hx) hfin hini hdecl (by rw [← hty1]; exact hty j hj) hn hfit hlen d (fun H1 locs1 hP1 _ hS1 => k _ (va_up_self _ _ _) (fun j hj => va_up_ne _ _ hj) H1 locs1 ls (by rw [← wl_set]; exact hP1) hS1 hl)
theorem G_iald (hC : Ck p s m args c cc nL Ts own D cs sa n ad A) {N : Nat} {f : Nat → Int32} {i : Int32} (q : Nat) (hq : q < n) (he : en q = .inl (cs 1, N, .inl f)) (hi : ¬ (i < 0 ∨ N ≤ i.toNatClampNeg)) (d : decode cc pc = .ok (.iaload, 1)) (k : G p l e R s m args below meth c D n ad A nL cells slots Q en (pc + 1) lv (.int (f i.toNatClampNeg) :: st)) : G p l e R s m args below meth c D n ad A nL cells slots Q en pc lv (.int i :: .ref (ad q) :: st) := fun H locs ls hP hS hl => va_iald hC.1.1 hC.1.2.1 hC.2.1 hP q 1 (wl_at hq he) rfl hi d (k H locs ls hP hS hl)
theorem G_bald (hC : Ck p s m args c cc nL Ts own D cs sa n ad A) {N : Nat} {f : Nat → Int32} {i : Int32} (q : Nat) (hq : q < n) (he : en q = .inl (cs 0, N, .inl f)) (hi : ¬ (i < 0 ∨ N ≤ i.toNatClampNeg)) (d : decode cc pc = .ok (.baload, 1)) (k : G p l e R s m args below meth c D n ad A nL cells slots Q en (pc + 1) lv (.int (f i.toNatClampNeg) :: st)) : G p l e R s m args below meth c D n ad A nL cells slots Q en pc lv (.int i :: .ref (ad q) :: st) := fun H locs ls hP hS hl => va_bald hC.1.1 hC.1.2.1 hC.2.1 hP q 0 (wl_at hq he) rfl hi d (k H locs ls hP hS hl)
theorem G_zald (hC : Ck p s m args c cc nL Ts own D cs sa n ad A) {N : Nat} {f : Nat → Int32} {i : Int32} (q : Nat) (hq : q < n) (he : en q = .inl (cs 3, N, .inl f)) (hi : ¬ (i < 0 ∨ N ≤ i.toNatClampNeg)) (d : decode cc pc = .ok (.baload, 1)) (k : G p l e R s m args below meth c D n ad A nL cells slots Q en (pc + 1) lv (.int (f i.toNatClampNeg) :: st)) : G p l e R s m args below meth c D n ad A nL cells slots Q en pc lv (.int i :: .ref (ad q) :: st) := fun H locs ls hP hS hl => va_zald hC.1.1 hC.1.2.1 hC.2.1 hP q 3 (wl_at hq he) rfl hi d (k H locs ls hP hS hl)
theorem G_lald (hC : Ck p s m args c cc nL Ts own D cs sa n ad A) {N : Nat} {f : Nat → Int64} {i : Int32} (q : Nat) (hq : q < n) (he : en q = .inl (cs 2, N, .inr (.inl f))) (hi : ¬ (i < 0 ∨ N ≤ i.toNatClampNeg)) (d : decode cc pc = .ok (.laload, 1)) (k : G p l e R s m args below meth c D n ad A nL cells slots Q en (pc + 1) lv (.long (f i.toNatClampNeg) :: st)) : G p l e R s m args below meth c D n ad A nL cells slots Q en pc lv (.int i :: .ref (ad q) :: st) := fun H locs ls hP hS hl => va_lald hC.1.1 hC.1.2.1 hC.2.1 hP q 2 (wl_at hq he) rfl hi d (k H locs ls hP hS hl)
theorem G_aldq (hC : Ck p s m args c cc nL Ts own D cs sa n ad A) {N : Nat} {f : Nat → Option Nat} {i : Int32} (q : Nat) (hq : q < n) (he : en q = .inl (cs 4, N, .inr (.inr (.inr (.inr f))))) (hi : ¬ (i < 0 ∨ N ≤ i.toNatClampNeg)) (d : decode cc pc = .ok (.aaload, 1)) (k : G p l e R s m args below meth c D n ad A nL cells slots Q en (pc + 1) lv (va_rf (f i.toNatClampNeg) :: st)) : G p l e R s m args below meth c D n ad A nL cells slots Q en pc lv (.int i :: .ref (ad q) :: st) := fun H locs ls hP hS hl => va_aldq hC.1.1 hC.1.2.1 hC.2.1 hP q 4 (wl_at hq he) rfl hi d (k H locs ls hP hS hl)
theorem G_iast (hC : Ck p s m args c cc nL Ts own D cs sa n ad A) {N : Nat} {f : Nat → Int32} {i : Int32} {x : Int32} (q : Nat) (hq : q < n) (he : en q = .inl (cs 1, N, .inl (f))) (hi : ¬ (i < 0 ∨ N ≤ i.toNatClampNeg)) (d : decode cc pc = .ok (.iastore, 1)) (k : ∀ u : Nat → va_E, u q = .inl (cs 1, N, .inl (upd f i.toNatClampNeg x)) → (∀ j, j ≠ q → u j = en j) → G p l e R s m args below meth c D n ad A nL cells slots Q u (pc + 1) lv st) : G p l e R s m args below meth c D n ad A nL cells slots Q en pc lv (.int x :: .int i :: .ref (ad q) :: st) := fun H locs ls hP hS hl => va_iast hC.1.1 hC.1.2.1 hC.2.1 hP (hC.2.2.1.w en) hS q 1 (wl_at hq he) rfl hi d (fun H1 locs1 hP1 _ hS1 => k _ (va_up_self _ _ _) (fun j hj => va_up_ne _ _ hj) H1 locs1 ls (by rw [← wl_set]; exact hP1) hS1 hl)
theorem G_bast (hC : Ck p s m args c cc nL Ts own D cs sa n ad A) {N : Nat} {f : Nat → Int32} {i : Int32} {x : Int32} (q : Nat) (hq : q < n) (he : en q = .inl (cs 0, N, .inl (f))) (hi : ¬ (i < 0 ∨ N ≤ i.toNatClampNeg)) (d : decode cc pc = .ok (.bastore, 1)) (k : ∀ u : Nat → va_E, u q = .inl (cs 0, N, .inl (upd f i.toNatClampNeg (vp_nar .byte x))) → (∀ j, j ≠ q → u j = en j) → G p l e R s m args below meth c D n ad A nL cells slots Q u (pc + 1) lv st) : G p l e R s m args below meth c D n ad A nL cells slots Q en pc lv (.int x :: .int i :: .ref (ad q) :: st) := fun H locs ls hP hS hl => va_bast hC.1.1 hC.1.2.1 hC.2.1 hP (hC.2.2.1.w en) hS q 0 (wl_at hq he) rfl hi d (fun H1 locs1 hP1 _ hS1 => k _ (va_up_self _ _ _) (fun j hj => va_up_ne _ _ hj) H1 locs1 ls (by rw [← wl_set]; exact hP1) hS1 hl)
theorem G_zast (hC : Ck p s m args c cc nL Ts own D cs sa n ad A) {N : Nat} {f : Nat → Int32} {i : Int32} {x : Int32} (q : Nat) (hq : q < n) (he : en q = .inl (cs 3, N, .inl (f))) (hi : ¬ (i < 0 ∨ N ≤ i.toNatClampNeg)) (d : decode cc pc = .ok (.bastore, 1)) (k : ∀ u : Nat → va_E, u q = .inl (cs 3, N, .inl (upd f i.toNatClampNeg (vp_nar .boolean x))) → (∀ j, j ≠ q → u j = en j) → G p l e R s m args below meth c D n ad A nL cells slots Q u (pc + 1) lv st) : G p l e R s m args below meth c D n ad A nL cells slots Q en pc lv (.int x :: .int i :: .ref (ad q) :: st) := fun H locs ls hP hS hl => va_zast hC.1.1 hC.1.2.1 hC.2.1 hP (hC.2.2.1.w en) hS q 3 (wl_at hq he) rfl hi d (fun H1 locs1 hP1 _ hS1 => k _ (va_up_self _ _ _) (fun j hj => va_up_ne _ _ hj) H1 locs1 ls (by rw [← wl_set]; exact hP1) hS1 hl)
theorem G_last (hC : Ck p s m args c cc nL Ts own D cs sa n ad A) {N : Nat} {f : Nat → Int64} {i : Int32} {x : Int64} (q : Nat) (hq : q < n) (he : en q = .inl (cs 2, N, .inr (.inl (f)))) (hi : ¬ (i < 0 ∨ N ≤ i.toNatClampNeg)) (d : decode cc pc = .ok (.lastore, 1)) (k : ∀ u : Nat → va_E, u q = .inl (cs 2, N, .inr (.inl (vp_updL f i.toNatClampNeg x))) → (∀ j, j ≠ q → u j = en j) → G p l e R s m args below meth c D n ad A nL cells slots Q u (pc + 1) lv st) : G p l e R s m args below meth c D n ad A nL cells slots Q en pc lv (.long x :: .int i :: .ref (ad q) :: st) := fun H locs ls hP hS hl => va_last hC.1.1 hC.1.2.1 hC.2.1 hP (hC.2.2.1.w en) hS q 2 (wl_at hq he) rfl hi d (fun H1 locs1 hP1 _ hS1 => k _ (va_up_self _ _ _) (fun j hj => va_up_ne _ _ hj) H1 locs1 ls (by rw [← wl_set]; exact hP1) hS1 hl)
theorem G_alen (hC : Ck p s m args c cc nL Ts own D cs sa n ad A) {x : vp_A} {v : Int32} {ty : FieldType} (ti q : Nat) (hq : q < n) (he : en q = .inl (cs ti, x)) (ht : (tyL cs)[ti]? = some (cs ti, ty)) (hv : Int32.ofNat x.1 = v) (d : decode cc pc = .ok (.arraylength, 1)) (k : G p l e R s m args below meth c D n ad A nL cells slots Q en (pc + 1) lv (.int v :: st)) : G p l e R s m args below meth c D n ad A nL cells slots Q en pc lv (.ref (ad q) :: st) := fun H locs ls hP hS hl => va_alen hC.1.1 hC.1.2.1 hC.2.1 hP q ti (wl_at hq he) ht hv d (k H locs ls hP hS hl)
theorem G_gets (hC : Ck p s m args c cc nL Ts own D cs sa n ad A) {index : Nat} (i : Nat) (hi : i < 6) (hlink : Cond.fieldLink own index (stQ i).1 (stQ i).2.1 "[I" ∈ Ts) (d : decode cc pc = .ok (.getstatic index, 3)) (k : G p l e R s m args below meth c D n ad A nL cells slots Q en (pc + 3) lv (.ref (sa i) :: st)) : G p l e R s m args below meth c D n ad A nL cells slots Q en pc lv st := fun H locs ls hP hS hl => va_gets hC.1.1 hC.1.2.1 (hC.2.2.2.2.1 i _ (stQ_at hi)).1 hS hC.1.2.2.2.1 (hC.hts _ hlink) (fun _ hx => hx) d (k H locs ls hP hS hl)
theorem G_tlen (hC : Ck p s m args c cc nL Ts own D cs sa n ad A) (i : Nat) (hi : i < 6) (d : decode cc pc = .ok (.arraylength, 1)) (k : G p l e R s m args below meth c D n ad A nL cells slots Q en (pc + 1) lv (.int (Int32.ofNat (stN i)) :: st)) : G p l e R s m args below meth c D n ad A nL cells slots Q en pc lv (.ref (sa i) :: st) := fun H locs ls hP hS hl => va_tlen hC.1.1 hC.1.2.1 (hC.2.2.2.2.1 i _ (stQ_at hi)).2 hS rfl d (k H locs ls hP hS hl)
theorem G_ti (hC : Ck p s m args c cc nL Ts own D cs sa n ad A) (i : Nat) (hi : i < 6) {j : Int32} (hj : ¬ (j < 0 ∨ stN i ≤ j.toNatClampNeg)) (d : decode cc pc = .ok (.iaload, 1)) (k : G p l e R s m args below meth c D n ad A nL cells slots Q en (pc + 1) lv (.int (stF i j.toNatClampNeg) :: st)) : G p l e R s m args below meth c D n ad A nL cells slots Q en pc lv (.int j :: .ref (sa i) :: st) := fun H locs ls hP hS hl => va_ti hC.1.1 hC.1.2.1 (hC.2.2.2.2.1 i _ (stQ_at hi)).2 hS hj rfl d (k H locs ls hP hS hl)
theorem G_sval (hC : Ck p s m args c cc nL Ts own D cs sa n ad A) {index : Nat} (i : Nat) (hi : i < 5) (hlink : Cond.fieldLink own index "java/lang/String" "value" "[B" ∈ Ts) (d : decode cc pc = .ok (.getfield index, 3)) (k : G p l e R s m args below meth c D n ad A nL cells slots Q en (pc + 3) lv (.ref (sa (20 + i)) :: st)) : G p l e R s m args below meth c D n ad A nL cells slots Q en pc lv (.ref (sa (10 + i)) :: st) := fun H locs ls hP hS hl => vk_getf hC.1.1 hC.1.2.1 (hC.2.2.2.2.2.2.2.1.1 i hi).2.2.1 hS hC.1.2.2.2.1 (hC.hts _ hlink) (fun _ hx => hx) d (k H locs ls hP hS hl)
theorem G_scod (hC : Ck p s m args c cc nL Ts own D cs sa n ad A) {index : Nat} (i : Nat) (hi : i < 5) (hlink : Cond.fieldLink own index "java/lang/String" "coder" "B" ∈ Ts) (d : decode cc pc = .ok (.getfield index, 3)) (k : G p l e R s m args below meth c D n ad A nL cells slots Q en (pc + 3) lv (.int 0 :: st)) : G p l e R s m args below meth c D n ad A nL cells slots Q en pc lv (.ref (sa (10 + i)) :: st) := fun H locs ls hP hS hl => vk_getf hC.1.1 hC.1.2.1 (hC.2.2.2.2.2.2.2.1.1 i hi).2.1 hS hC.1.2.2.2.1 (hC.hts _ hlink) (fun _ hx => hx) d (k H locs ls hP hS hl)
theorem G_slen (hC : Ck p s m args c cc nL Ts own D cs sa n ad A) (i : Nat) (hi : i < 5) (d : decode cc pc = .ok (.arraylength, 1)) (k : G p l e R s m args below meth c D n ad A nL cells slots Q en (pc + 1) lv (.int (Int32.ofNat (strLen.getD i 0)) :: st)) : G p l e R s m args below meth c D n ad A nL cells slots Q en pc lv (.ref (sa (20 + i)) :: st) := fun H locs ls hP hS hl => va_tlen hC.1.1 hC.1.2.1 (hC.2.2.2.2.2.2.2.1.1 i hi).2.2.2 hS rfl d (k H locs ls hP hS hl)
theorem G_sbyt (hC : Ck p s m args c cc nL Ts own D cs sa n ad A) (i : Nat) (hi : i < 5) {j : Int32} (hj : ¬ (j < 0 ∨ strLen.getD i 0 ≤ j.toNatClampNeg)) (d : decode cc pc = .ok (.baload, 1)) (k : G p l e R s m args below meth c D n ad A nL cells slots Q en (pc + 1) lv (.int ((strByt.getD i []).getD j.toNatClampNeg 0) :: st)) : G p l e R s m args below meth c D n ad A nL cells slots Q en pc lv (.int j :: .ref (sa (20 + i)) :: st) := fun H locs ls hP hS hl => va_tb hC.1.1 hC.1.2.1 (hC.2.2.2.2.2.2.2.1.1 i hi).2.2.2 hS hj rfl d (k H locs ls hP hS hl)
theorem G_compact (hC : Ck p s m args c cc nL Ts own D cs sa n ad A) {index : Nat} (hlink : Cond.fieldLink own index "java/lang/String" "COMPACT_STRINGS" "Z" ∈ Ts) (d : decode cc pc = .ok (.getstatic index, 3)) (k : G p l e R s m args below meth c D n ad A nL cells slots Q en (pc + 3) lv (.int 1 :: st)) : G p l e R s m args below meth c D n ad A nL cells slots Q en pc lv st := fun H locs ls hP hS hl => va_gets hC.1.1 hC.1.2.1 hC.2.2.2.2.2.1 hS hC.1.2.2.2.1 (hC.hts _ hlink) (fun _ hx => hx) d (k H locs ls hP hS hl)
theorem G_sio (hC : Ck p s m args c cc nL Ts own D cs sa n ad A) {index : Nat} (hlink : Cond.fieldLink own index "jdk/internal/util/Preconditions" "SIOOBE_FORMATTER" "Ljava/util/function/BiFunction;" ∈ Ts) (d : decode cc pc = .ok (.getstatic index, 3)) (k : G p l e R s m args below meth c D n ad A nL cells slots Q en (pc + 3) lv (.null :: st)) (k2 : ∀ t : Nat, G p l e R s m args below meth c D n ad A nL cells slots Q en (pc + 3) lv (.ref t :: st)) : G p l e R s m args below meth c D n ad A nL cells slots Q en pc lv st := fun H locs ls hP hS hl => by
  rcases hC.2.2.2.2.2.2.1 with hz | ⟨t, hz⟩
  · exact va_gets hC.1.1 hC.1.2.1 hz hS hC.1.2.2.2.1 (hC.hts _ hlink) (fun _ hx => hx) d (k H locs ls hP hS hl)
  · exact va_gets hC.1.1 hC.1.2.1 hz hS hC.1.2.2.2.1 (hC.hts _ hlink) (fun _ hx => hx) d (k2 t H locs ls hP hS hl)
theorem G_mmax (hC : Ck p s m args c cc nL Ts own D cs sa n ad A) {index : Nat} {x y : Int32} (h1 : Cond.methodLink own index Lib.Math.max.name ∈ Ts) (h2 : Cond.static Lib.Math.max.name ∈ Ts) (h3 : Cond.initialized "java/lang/Math" ∈ Ts) (h4 : Cond.code Lib.Math.max.name Lib.Math.max.code 2 (some .int) ∈ Ts) (hf : 1 ≤ R.frames) (hlo : (st.map fun v => v.category).sum + 13 ≤ R.locals) (hce : cells ≤ R.cells) (hsl : slots ≤ R.slots) (d : decode cc pc = .ok (.invokestatic index, 3)) (k : G p l e R s m args below meth c D n ad A nL cells slots Q en (pc + 3) lv (.int (imax x y) :: st)) : G p l e R s m args below meth c D n ad A nL cells slots Q en pc lv (.int y :: .int x :: st) := fun H locs ls hP hS hl => va_mmax hC.1.1 hC.1.2.1 (hC.1.2.2.1.trans hl.1.symm) hC.1.2.2.2.1 (hC.hts _ h1) (hC.hts _ h2) (hC.hts _ h3) (hC.hts _ h4) hf hlo hce hsl d (k H locs ls hP hS hl)
theorem G_mmin (hC : Ck p s m args c cc nL Ts own D cs sa n ad A) {index : Nat} {x y : Int32} (h1 : Cond.methodLink own index Lib.Math.min.name ∈ Ts) (h2 : Cond.static Lib.Math.min.name ∈ Ts) (h3 : Cond.initialized "java/lang/Math" ∈ Ts) (h4 : Cond.code Lib.Math.min.name Lib.Math.min.code 2 (some .int) ∈ Ts) (hf : 1 ≤ R.frames) (hlo : (st.map fun v => v.category).sum + 13 ≤ R.locals) (hce : cells ≤ R.cells) (hsl : slots ≤ R.slots) (d : decode cc pc = .ok (.invokestatic index, 3)) (k : G p l e R s m args below meth c D n ad A nL cells slots Q en (pc + 3) lv (.int (imin x y) :: st)) : G p l e R s m args below meth c D n ad A nL cells slots Q en pc lv (.int y :: .int x :: st) := fun H locs ls hP hS hl => va_mmin hC.1.1 hC.1.2.1 (hC.1.2.2.1.trans hl.1.symm) hC.1.2.2.2.1 (hC.hts _ h1) (hC.hts _ h2) (hC.hts _ h3) (hC.hts _ h4) hf hlo hce hsl d (k H locs ls hP hS hl)
theorem G_iret (hC : Ck p s m args c cc nL Ts own D cs sa n ad A) {post : Int32 → (Nat → va_E) → Prop} {v : Int32} (hlk : meth.locks = false) (hr : meth.sig.returnType = some .int) (hq : post v en) (d : decode cc pc = .ok (.ireturn, 1)) : G p l e R s m args below meth c D n ad A nL cells slots (MQ below (va_Qi post (Wd D cs sa n ad A) A) args s cells slots A) en pc lv [.int v] := fun H locs ls hP hS hl => W.iret hC.1.1 hC.1.2.1 hr (fun t ht hW => ⟨⟨v, en, rfl, hq, hC.wd hP hS ht hW⟩, hS.F ht⟩) hS.2.2 d hlk
theorem G_zret (hC : Ck p s m args c cc nL Ts own D cs sa n ad A) {post : Int32 → (Nat → va_E) → Prop} {v : Int32} {ty : FieldType} (hnr : narrow ty (.int v) = .int v) (hlk : meth.locks = false) (hr : meth.sig.returnType = some ty) (hq : post v en) (d : decode cc pc = .ok (.ireturn, 1)) : G p l e R s m args below meth c D n ad A nL cells slots (MQ below (va_Qi post (Wd D cs sa n ad A) A) args s cells slots A) en pc lv [.int v] := fun H locs ls hP hS hl => W.zret hC.1.1 hC.1.2.1 hr hnr (fun t ht hW => ⟨⟨v, en, rfl, hq, hC.wd hP hS ht hW⟩, hS.F ht⟩) hS.2.2 d hlk
theorem G_lret (hC : Ck p s m args c cc nL Ts own D cs sa n ad A) {post : Int64 → (Nat → va_E) → Prop} {v : Int64} (hlk : meth.locks = false) (hr : meth.sig.returnType = some .long) (hq : post v en) (d : decode cc pc = .ok (.lreturn, 1)) : G p l e R s m args below meth c D n ad A nL cells slots (MQ below (va_Ql post (Wd D cs sa n ad A) A) args s cells slots A) en pc lv [.long v] := fun H locs ls hP hS hl => W.lret hC.1.1 hC.1.2.1 hr (fun t ht hW => ⟨⟨v, en, rfl, hq, hC.wd hP hS ht hW⟩, hS.F ht⟩) hS.2.2 d hlk
theorem G_vret (hC : Ck p s m args c cc nL Ts own D cs sa n ad A) {post : (Nat → va_E) → Prop} (hlk : meth.locks = false) (hr : meth.sig.returnType = none) (hq : post en) (d : decode cc pc = .ok (.return_, 1)) : G p l e R s m args below meth c D n ad A nL cells slots (MQ below (va_Qv post (Wd D cs sa n ad A) A) args s cells slots A) en pc lv [] := fun H locs ls hP hS hl => W.vret hC.1.1 hC.1.2.1 hr (fun t ht hW => ⟨⟨en, rfl, hq, hC.wd hP hS ht hW⟩, hS.F ht⟩) hS.2.2 d hlk
theorem G_aret (hC : Ck p s m args c cc nL Ts own D cs sa n ad A) {post : Option Nat → (Nat → va_E) → Prop} {v : Option Nat} {C : String} (hlk : meth.locks = false) (hr : meth.sig.returnType = some (.object C)) (hq : post v en) (d : decode cc pc = .ok (.areturn, 1)) : G p l e R s m args below meth c D n ad A nL cells slots (MQ below (va_Qq post (Wd D cs sa n ad A) A) args s cells slots A) en pc lv [va_rf v] := fun H locs ls hP hS hl => W.aret hC.1.1 hC.1.2.1 hr (Or.inl ⟨C, rfl⟩) (by cases v with | none => exact Or.inl rfl | some a => exact Or.inr ⟨a, rfl⟩) (fun t ht hW => ⟨⟨v, en, rfl, hq, hC.wd hP hS ht hW⟩, hS.F ht⟩) hS.2.2 d hlk
theorem G_ldcS (hC : Ck p s m args c cc nL Ts own D cs sa n ad A) {index : Nat} {tx : String} (i : Nat) (hi : strL[i]? = some (index, tx)) (ho : own = "TongueTip$Reader") (d : decode cc pc = .ok (.ldc index, 2)) (k : G p l e R s m args below meth c D n ad A nL cells slots Q en (pc + 2) lv (.ref (sa (10 + i)) :: st)) : G p l e R s m args below meth c D n ad A nL cells slots Q en pc lv st := fun H locs ls hP hS hl => va_ldcS hC.1.1 hC.1.2.1 hC.1.2.2.2.1 (by rw [ho]; exact hC.2.2.2.2.2.2.2.2 i _ hi) d (k H locs ls hP hS hl)
theorem G_cVq (hC : Ck p s m args c cc nL Ts own D cs sa n ad A) {y : MethodName} {bytes : ByteArray} {maxL N index : Nat} {ret : Option FieldType} {ws : List Cond} {rm : Room} {C : String} {As : List Value} {post : Option Nat → (Nat → va_E) → Prop} {ci : Nat} {T : u_T} {Nf : Nat} {fs : List Value} (stk : List Value) (q : Nat) (hq : q < n) (hM : Met l y ws rm (va_Pc (.ref (ad q) :: As) (Wd D cs sa n ad A en)) (va_Qq post (Wd D cs sa n ad A) A) 0 0 A) (cw : CallW R s args own C index y bytes maxL ret ws rm 0 0 N) (he : en q = .inr (ci, fs)) (hc : vwCl[ci]? = some (C, T, Nf)) (hn : As.length = N) (hst : (st.map fun v => v.category).sum ≤ 8) (hce : cells ≤ R.cells) (hsl : slots ≤ R.slots) (hstk : stk = As.reverse ++ .ref (ad q) :: st) (d : decode cc pc = .ok (.invokevirtual index, 3)) (kk : ∀ (r : Option Nat) (u : Nat → va_E), post r u → G p l e R s m args below meth c D n ad A nL cells slots Q u (pc + 3) lv (va_rf r :: st)) : G p l e R s m args below meth c D n ad A nL cells slots Q en pc lv stk := fun H locs ls hP hS hl => by
  subst hstk
  exact va_callq (va_runV (As := As) (rest := st) hC.1 hM cw ⟨Wd.blind, va_recv hC.2.1 hP hc (wl_at hq he), fun U hU hW => ⟨rfl, hC.wd hP hS hU hW⟩⟩ rfl hn hl.1 rfl (lv_room hst) d ⟨hce, hsl⟩) hS (fun _ _ h => h) (fun _ h => h) (fun r u t H1 locs1 ht hvm hw hB hz hk hS1 => kk r u hw H1 locs1 ls (by rw [← ht]; exact hB.1) hS1 hl)
theorem G_cTq (hC : Ck p s m args c cc nL Ts own D cs sa n ad A) {y : MethodName} {bytes : ByteArray} {maxL N index : Nat} {ret : Option FieldType} {ws : List Cond} {rm : Room} {As : List Value} {post : Option Nat → (Nat → va_E) → Prop} (stk : List Value) (i : Nat) (hi : i < 5) (hM : Met l y ws rm (va_Pc (.ref (sa (10 + i)) :: As) (Wd D cs sa n ad A en)) (va_Qq post (Wd D cs sa n ad A) A) 0 0 A) (cw : CallW R s args own "java/lang/String" index y bytes maxL ret ws rm 0 0 N) (hn : As.length = N) (hst : (st.map fun v => v.category).sum ≤ 8) (hce : cells ≤ R.cells) (hsl : slots ≤ R.slots) (hstk : stk = As.reverse ++ .ref (sa (10 + i)) :: st) (d : decode cc pc = .ok (.invokevirtual index, 3)) (kk : ∀ (r : Option Nat) (u : Nat → va_E), post r u → G p l e R s m args below meth c D n ad A nL cells slots Q u (pc + 3) lv (va_rf r :: st)) : G p l e R s m args below meth c D n ad A nL cells slots Q en pc lv stk := fun H locs ls hP hS hl => by
  subst hstk
  exact va_callq (va_runV (As := As) (rest := st) hC.1 hM cw ⟨Wd.blind, vk_recv hC.2.2.2.2.2.2.2.1 hi hS, fun U hU hW => ⟨rfl, hC.wd hP hS hU hW⟩⟩ rfl hn hl.1 rfl (lv_room hst) d ⟨hce, hsl⟩) hS (fun _ _ h => h) (fun _ h => h) (fun r u t H1 locs1 ht hvm hw hB hz hk hS1 => kk r u hw H1 locs1 ls (by rw [← ht]; exact hB.1) hS1 hl)
theorem G_cSq (hC : Ck p s m args c cc nL Ts own D cs sa n ad A) {y : MethodName} {bytes : ByteArray} {maxL N index : Nat} {ret : Option FieldType} {ws : List Cond} {rm : Room} {As : List Value} {post : Option Nat → (Nat → va_E) → Prop} (stk : List Value) (hM : Met l y ws rm (va_Pc As (Wd D cs sa n ad A en)) (va_Qq post (Wd D cs sa n ad A) A) 0 0 A) (cw : CallB R s args own index y bytes maxL ret ws rm 0 0 N ∧ (Cond.static y).before args s = true) (hn : As.length = N) (hst : (st.map fun v => v.category).sum ≤ 8) (hce : cells ≤ R.cells) (hsl : slots ≤ R.slots) (hstk : stk = As.reverse ++ st) (d : decode cc pc = .ok (.invokestatic index, 3)) (kk : ∀ (r : Option Nat) (u : Nat → va_E), post r u → G p l e R s m args below meth c D n ad A nL cells slots Q u (pc + 3) lv (va_rf r :: st)) : G p l e R s m args below meth c D n ad A nL cells slots Q en pc lv stk := fun H locs ls hP hS hl => by
  subst hstk
  exact va_callq (va_runS (As := As) (rest := st) hC.1 hM cw ⟨Wd.blind, fun U hU hW => ⟨rfl, hC.wd hP hS hU hW⟩⟩ rfl hn hl.1 rfl (lv_room hst) d ⟨hce, hsl⟩) hS (fun _ _ h => h) (fun _ h => h) (fun r u t H1 locs1 ht hvm hw hB hz hk hS1 => kk r u hw H1 locs1 ls (by rw [← ht]; exact hB.1) hS1 hl)
theorem G_cNq (hC : Ck p s m args c cc nL Ts own D cs sa n ad A) {y : MethodName} {bytes : ByteArray} {maxL N index : Nat} {ret : Option FieldType} {ws : List Cond} {rm : Room} {host : String} {As : List Value} {post : Option Nat → (Nat → va_E) → Prop} (stk : List Value) (hM : Met l y ws rm (va_Pc As (Wd D cs sa n ad A en)) (va_Qq post (Wd D cs sa n ad A) A) 0 0 A) (cw : va_CN R s args own index y host bytes maxL ret ws rm 0 0 N ∧ (Cond.static y).before args s = true ∧ True) (hn : As.length = N) (hst : (st.map fun v => v.category).sum ≤ 8) (hce : cells ≤ R.cells) (hsl : slots ≤ R.slots) (hstk : stk = As.reverse ++ st) (d : decode cc pc = .ok (.invokestatic index, 3)) (kk : ∀ (r : Option Nat) (u : Nat → va_E), post r u → G p l e R s m args below meth c D n ad A nL cells slots Q u (pc + 3) lv (va_rf r :: st)) : G p l e R s m args below meth c D n ad A nL cells slots Q en pc lv stk := fun H locs ls hP hS hl => by
  subst hstk
  exact va_callq (va_runSN (As := As) (rest := st) hC.1 hM cw ⟨Wd.blind, fun U hU hW => ⟨rfl, hC.wd hP hS hU hW⟩⟩ rfl hn hl.1 rfl (lv_room hst) d ⟨hce, hsl⟩) hS (fun _ _ h => h) (fun _ h => h) (fun r u t H1 locs1 ht hvm hw hB hz hk hS1 => kk r u hw H1 locs1 ls (by rw [← ht]; exact hB.1) hS1 hl)
theorem G_cVi (hC : Ck p s m args c cc nL Ts own D cs sa n ad A) {y : MethodName} {bytes : ByteArray} {maxL N index : Nat} {ret : Option FieldType} {ws : List Cond} {rm : Room} {C : String} {As : List Value} {post : Int32 → (Nat → va_E) → Prop} {ci : Nat} {T : u_T} {Nf : Nat} {fs : List Value} (stk : List Value) (q : Nat) (hq : q < n) (hM : Met l y ws rm (va_Pc (.ref (ad q) :: As) (Wd D cs sa n ad A en)) (va_Qi post (Wd D cs sa n ad A) A) 0 0 A) (cw : CallW R s args own C index y bytes maxL ret ws rm 0 0 N) (he : en q = .inr (ci, fs)) (hc : vwCl[ci]? = some (C, T, Nf)) (hn : As.length = N) (hst : (st.map fun v => v.category).sum ≤ 8) (hce : cells ≤ R.cells) (hsl : slots ≤ R.slots) (hstk : stk = As.reverse ++ .ref (ad q) :: st) (d : decode cc pc = .ok (.invokevirtual index, 3)) (kk : ∀ (r : Int32) (u : Nat → va_E), post r u → G p l e R s m args below meth c D n ad A nL cells slots Q u (pc + 3) lv (.int r :: st)) : G p l e R s m args below meth c D n ad A nL cells slots Q en pc lv stk := fun H locs ls hP hS hl => by
  subst hstk
  exact va_calli (va_runV (As := As) (rest := st) hC.1 hM cw ⟨Wd.blind, va_recv hC.2.1 hP hc (wl_at hq he), fun U hU hW => ⟨rfl, hC.wd hP hS hU hW⟩⟩ rfl hn hl.1 rfl (lv_room hst) d ⟨hce, hsl⟩) hS (fun _ _ h => h) (fun _ h => h) (fun r u t H1 locs1 ht hvm hw hB hz hk hS1 => kk r u hw H1 locs1 ls (by rw [← ht]; exact hB.1) hS1 hl)
theorem G_cTi (hC : Ck p s m args c cc nL Ts own D cs sa n ad A) {y : MethodName} {bytes : ByteArray} {maxL N index : Nat} {ret : Option FieldType} {ws : List Cond} {rm : Room} {As : List Value} {post : Int32 → (Nat → va_E) → Prop} (stk : List Value) (i : Nat) (hi : i < 5) (hM : Met l y ws rm (va_Pc (.ref (sa (10 + i)) :: As) (Wd D cs sa n ad A en)) (va_Qi post (Wd D cs sa n ad A) A) 0 0 A) (cw : CallW R s args own "java/lang/String" index y bytes maxL ret ws rm 0 0 N) (hn : As.length = N) (hst : (st.map fun v => v.category).sum ≤ 8) (hce : cells ≤ R.cells) (hsl : slots ≤ R.slots) (hstk : stk = As.reverse ++ .ref (sa (10 + i)) :: st) (d : decode cc pc = .ok (.invokevirtual index, 3)) (kk : ∀ (r : Int32) (u : Nat → va_E), post r u → G p l e R s m args below meth c D n ad A nL cells slots Q u (pc + 3) lv (.int r :: st)) : G p l e R s m args below meth c D n ad A nL cells slots Q en pc lv stk := fun H locs ls hP hS hl => by
  subst hstk
  exact va_calli (va_runV (As := As) (rest := st) hC.1 hM cw ⟨Wd.blind, vk_recv hC.2.2.2.2.2.2.2.1 hi hS, fun U hU hW => ⟨rfl, hC.wd hP hS hU hW⟩⟩ rfl hn hl.1 rfl (lv_room hst) d ⟨hce, hsl⟩) hS (fun _ _ h => h) (fun _ h => h) (fun r u t H1 locs1 ht hvm hw hB hz hk hS1 => kk r u hw H1 locs1 ls (by rw [← ht]; exact hB.1) hS1 hl)
theorem G_cSi (hC : Ck p s m args c cc nL Ts own D cs sa n ad A) {y : MethodName} {bytes : ByteArray} {maxL N index : Nat} {ret : Option FieldType} {ws : List Cond} {rm : Room} {As : List Value} {post : Int32 → (Nat → va_E) → Prop} (stk : List Value) (hM : Met l y ws rm (va_Pc As (Wd D cs sa n ad A en)) (va_Qi post (Wd D cs sa n ad A) A) 0 0 A) (cw : CallB R s args own index y bytes maxL ret ws rm 0 0 N ∧ (Cond.static y).before args s = true) (hn : As.length = N) (hst : (st.map fun v => v.category).sum ≤ 8) (hce : cells ≤ R.cells) (hsl : slots ≤ R.slots) (hstk : stk = As.reverse ++ st) (d : decode cc pc = .ok (.invokestatic index, 3)) (kk : ∀ (r : Int32) (u : Nat → va_E), post r u → G p l e R s m args below meth c D n ad A nL cells slots Q u (pc + 3) lv (.int r :: st)) : G p l e R s m args below meth c D n ad A nL cells slots Q en pc lv stk := fun H locs ls hP hS hl => by
  subst hstk
  exact va_calli (va_runS (As := As) (rest := st) hC.1 hM cw ⟨Wd.blind, fun U hU hW => ⟨rfl, hC.wd hP hS hU hW⟩⟩ rfl hn hl.1 rfl (lv_room hst) d ⟨hce, hsl⟩) hS (fun _ _ h => h) (fun _ h => h) (fun r u t H1 locs1 ht hvm hw hB hz hk hS1 => kk r u hw H1 locs1 ls (by rw [← ht]; exact hB.1) hS1 hl)
theorem G_cNi (hC : Ck p s m args c cc nL Ts own D cs sa n ad A) {y : MethodName} {bytes : ByteArray} {maxL N index : Nat} {ret : Option FieldType} {ws : List Cond} {rm : Room} {host : String} {As : List Value} {post : Int32 → (Nat → va_E) → Prop} (stk : List Value) (hM : Met l y ws rm (va_Pc As (Wd D cs sa n ad A en)) (va_Qi post (Wd D cs sa n ad A) A) 0 0 A) (cw : va_CN R s args own index y host bytes maxL ret ws rm 0 0 N ∧ (Cond.static y).before args s = true ∧ True) (hn : As.length = N) (hst : (st.map fun v => v.category).sum ≤ 8) (hce : cells ≤ R.cells) (hsl : slots ≤ R.slots) (hstk : stk = As.reverse ++ st) (d : decode cc pc = .ok (.invokestatic index, 3)) (kk : ∀ (r : Int32) (u : Nat → va_E), post r u → G p l e R s m args below meth c D n ad A nL cells slots Q u (pc + 3) lv (.int r :: st)) : G p l e R s m args below meth c D n ad A nL cells slots Q en pc lv stk := fun H locs ls hP hS hl => by
  subst hstk
  exact va_calli (va_runSN (As := As) (rest := st) hC.1 hM cw ⟨Wd.blind, fun U hU hW => ⟨rfl, hC.wd hP hS hU hW⟩⟩ rfl hn hl.1 rfl (lv_room hst) d ⟨hce, hsl⟩) hS (fun _ _ h => h) (fun _ h => h) (fun r u t H1 locs1 ht hvm hw hB hz hk hS1 => kk r u hw H1 locs1 ls (by rw [← ht]; exact hB.1) hS1 hl)
theorem G_cVl (hC : Ck p s m args c cc nL Ts own D cs sa n ad A) {y : MethodName} {bytes : ByteArray} {maxL N index : Nat} {ret : Option FieldType} {ws : List Cond} {rm : Room} {C : String} {As : List Value} {post : Int64 → (Nat → va_E) → Prop} {ci : Nat} {T : u_T} {Nf : Nat} {fs : List Value} (stk : List Value) (q : Nat) (hq : q < n) (hM : Met l y ws rm (va_Pc (.ref (ad q) :: As) (Wd D cs sa n ad A en)) (va_Ql post (Wd D cs sa n ad A) A) 0 0 A) (cw : CallW R s args own C index y bytes maxL ret ws rm 0 0 N) (he : en q = .inr (ci, fs)) (hc : vwCl[ci]? = some (C, T, Nf)) (hn : As.length = N) (hst : (st.map fun v => v.category).sum ≤ 8) (hce : cells ≤ R.cells) (hsl : slots ≤ R.slots) (hstk : stk = As.reverse ++ .ref (ad q) :: st) (d : decode cc pc = .ok (.invokevirtual index, 3)) (kk : ∀ (r : Int64) (u : Nat → va_E), post r u → G p l e R s m args below meth c D n ad A nL cells slots Q u (pc + 3) lv (.long r :: st)) : G p l e R s m args below meth c D n ad A nL cells slots Q en pc lv stk := fun H locs ls hP hS hl => by
  subst hstk
  exact va_calll (va_runV (As := As) (rest := st) hC.1 hM cw ⟨Wd.blind, va_recv hC.2.1 hP hc (wl_at hq he), fun U hU hW => ⟨rfl, hC.wd hP hS hU hW⟩⟩ rfl hn hl.1 rfl (lv_room hst) d ⟨hce, hsl⟩) hS (fun _ _ h => h) (fun _ h => h) (fun r u t H1 locs1 ht hvm hw hB hz hk hS1 => kk r u hw H1 locs1 ls (by rw [← ht]; exact hB.1) hS1 hl)
theorem G_cTl (hC : Ck p s m args c cc nL Ts own D cs sa n ad A) {y : MethodName} {bytes : ByteArray} {maxL N index : Nat} {ret : Option FieldType} {ws : List Cond} {rm : Room} {As : List Value} {post : Int64 → (Nat → va_E) → Prop} (stk : List Value) (i : Nat) (hi : i < 5) (hM : Met l y ws rm (va_Pc (.ref (sa (10 + i)) :: As) (Wd D cs sa n ad A en)) (va_Ql post (Wd D cs sa n ad A) A) 0 0 A) (cw : CallW R s args own "java/lang/String" index y bytes maxL ret ws rm 0 0 N) (hn : As.length = N) (hst : (st.map fun v => v.category).sum ≤ 8) (hce : cells ≤ R.cells) (hsl : slots ≤ R.slots) (hstk : stk = As.reverse ++ .ref (sa (10 + i)) :: st) (d : decode cc pc = .ok (.invokevirtual index, 3)) (kk : ∀ (r : Int64) (u : Nat → va_E), post r u → G p l e R s m args below meth c D n ad A nL cells slots Q u (pc + 3) lv (.long r :: st)) : G p l e R s m args below meth c D n ad A nL cells slots Q en pc lv stk := fun H locs ls hP hS hl => by
  subst hstk
  exact va_calll (va_runV (As := As) (rest := st) hC.1 hM cw ⟨Wd.blind, vk_recv hC.2.2.2.2.2.2.2.1 hi hS, fun U hU hW => ⟨rfl, hC.wd hP hS hU hW⟩⟩ rfl hn hl.1 rfl (lv_room hst) d ⟨hce, hsl⟩) hS (fun _ _ h => h) (fun _ h => h) (fun r u t H1 locs1 ht hvm hw hB hz hk hS1 => kk r u hw H1 locs1 ls (by rw [← ht]; exact hB.1) hS1 hl)
theorem G_cSl (hC : Ck p s m args c cc nL Ts own D cs sa n ad A) {y : MethodName} {bytes : ByteArray} {maxL N index : Nat} {ret : Option FieldType} {ws : List Cond} {rm : Room} {As : List Value} {post : Int64 → (Nat → va_E) → Prop} (stk : List Value) (hM : Met l y ws rm (va_Pc As (Wd D cs sa n ad A en)) (va_Ql post (Wd D cs sa n ad A) A) 0 0 A) (cw : CallB R s args own index y bytes maxL ret ws rm 0 0 N ∧ (Cond.static y).before args s = true) (hn : As.length = N) (hst : (st.map fun v => v.category).sum ≤ 8) (hce : cells ≤ R.cells) (hsl : slots ≤ R.slots) (hstk : stk = As.reverse ++ st) (d : decode cc pc = .ok (.invokestatic index, 3)) (kk : ∀ (r : Int64) (u : Nat → va_E), post r u → G p l e R s m args below meth c D n ad A nL cells slots Q u (pc + 3) lv (.long r :: st)) : G p l e R s m args below meth c D n ad A nL cells slots Q en pc lv stk := fun H locs ls hP hS hl => by
  subst hstk
  exact va_calll (va_runS (As := As) (rest := st) hC.1 hM cw ⟨Wd.blind, fun U hU hW => ⟨rfl, hC.wd hP hS hU hW⟩⟩ rfl hn hl.1 rfl (lv_room hst) d ⟨hce, hsl⟩) hS (fun _ _ h => h) (fun _ h => h) (fun r u t H1 locs1 ht hvm hw hB hz hk hS1 => kk r u hw H1 locs1 ls (by rw [← ht]; exact hB.1) hS1 hl)
theorem G_cNl (hC : Ck p s m args c cc nL Ts own D cs sa n ad A) {y : MethodName} {bytes : ByteArray} {maxL N index : Nat} {ret : Option FieldType} {ws : List Cond} {rm : Room} {host : String} {As : List Value} {post : Int64 → (Nat → va_E) → Prop} (stk : List Value) (hM : Met l y ws rm (va_Pc As (Wd D cs sa n ad A en)) (va_Ql post (Wd D cs sa n ad A) A) 0 0 A) (cw : va_CN R s args own index y host bytes maxL ret ws rm 0 0 N ∧ (Cond.static y).before args s = true ∧ True) (hn : As.length = N) (hst : (st.map fun v => v.category).sum ≤ 8) (hce : cells ≤ R.cells) (hsl : slots ≤ R.slots) (hstk : stk = As.reverse ++ st) (d : decode cc pc = .ok (.invokestatic index, 3)) (kk : ∀ (r : Int64) (u : Nat → va_E), post r u → G p l e R s m args below meth c D n ad A nL cells slots Q u (pc + 3) lv (.long r :: st)) : G p l e R s m args below meth c D n ad A nL cells slots Q en pc lv stk := fun H locs ls hP hS hl => by
  subst hstk
  exact va_calll (va_runSN (As := As) (rest := st) hC.1 hM cw ⟨Wd.blind, fun U hU hW => ⟨rfl, hC.wd hP hS hU hW⟩⟩ rfl hn hl.1 rfl (lv_room hst) d ⟨hce, hsl⟩) hS (fun _ _ h => h) (fun _ h => h) (fun r u t H1 locs1 ht hvm hw hB hz hk hS1 => kk r u hw H1 locs1 ls (by rw [← ht]; exact hB.1) hS1 hl)
theorem G_cVv (hC : Ck p s m args c cc nL Ts own D cs sa n ad A) {y : MethodName} {bytes : ByteArray} {maxL N index : Nat} {ret : Option FieldType} {ws : List Cond} {rm : Room} {C : String} {As : List Value} {post : (Nat → va_E) → Prop} {ci : Nat} {T : u_T} {Nf : Nat} {fs : List Value} (stk : List Value) (q : Nat) (hq : q < n) (hM : Met l y ws rm (va_Pc (.ref (ad q) :: As) (Wd D cs sa n ad A en)) (va_Qv post (Wd D cs sa n ad A) A) 0 0 A) (cw : CallW R s args own C index y bytes maxL ret ws rm 0 0 N) (he : en q = .inr (ci, fs)) (hc : vwCl[ci]? = some (C, T, Nf)) (hn : As.length = N) (hst : (st.map fun v => v.category).sum ≤ 8) (hce : cells ≤ R.cells) (hsl : slots ≤ R.slots) (hstk : stk = As.reverse ++ .ref (ad q) :: st) (d : decode cc pc = .ok (.invokevirtual index, 3)) (kk : ∀ (u : Nat → va_E), post u → G p l e R s m args below meth c D n ad A nL cells slots Q u (pc + 3) lv (st)) : G p l e R s m args below meth c D n ad A nL cells slots Q en pc lv stk := fun H locs ls hP hS hl => by
  subst hstk
  exact va_callv (va_runV (As := As) (rest := st) hC.1 hM cw ⟨Wd.blind, va_recv hC.2.1 hP hc (wl_at hq he), fun U hU hW => ⟨rfl, hC.wd hP hS hU hW⟩⟩ rfl hn hl.1 rfl (lv_room hst) d ⟨hce, hsl⟩) hS (fun _ _ h => h) (fun _ h => h) (fun u t H1 locs1 ht hvm hw hB hz hk hS1 => kk u hw H1 locs1 ls (by rw [← ht]; exact hB.1) hS1 hl)
theorem G_cTv (hC : Ck p s m args c cc nL Ts own D cs sa n ad A) {y : MethodName} {bytes : ByteArray} {maxL N index : Nat} {ret : Option FieldType} {ws : List Cond} {rm : Room} {As : List Value} {post : (Nat → va_E) → Prop} (stk : List Value) (i : Nat) (hi : i < 5) (hM : Met l y ws rm (va_Pc (.ref (sa (10 + i)) :: As) (Wd D cs sa n ad A en)) (va_Qv post (Wd D cs sa n ad A) A) 0 0 A) (cw : CallW R s args own "java/lang/String" index y bytes maxL ret ws rm 0 0 N) (hn : As.length = N) (hst : (st.map fun v => v.category).sum ≤ 8) (hce : cells ≤ R.cells) (hsl : slots ≤ R.slots) (hstk : stk = As.reverse ++ .ref (sa (10 + i)) :: st) (d : decode cc pc = .ok (.invokevirtual index, 3)) (kk : ∀ (u : Nat → va_E), post u → G p l e R s m args below meth c D n ad A nL cells slots Q u (pc + 3) lv (st)) : G p l e R s m args below meth c D n ad A nL cells slots Q en pc lv stk := fun H locs ls hP hS hl => by
  subst hstk
  exact va_callv (va_runV (As := As) (rest := st) hC.1 hM cw ⟨Wd.blind, vk_recv hC.2.2.2.2.2.2.2.1 hi hS, fun U hU hW => ⟨rfl, hC.wd hP hS hU hW⟩⟩ rfl hn hl.1 rfl (lv_room hst) d ⟨hce, hsl⟩) hS (fun _ _ h => h) (fun _ h => h) (fun u t H1 locs1 ht hvm hw hB hz hk hS1 => kk u hw H1 locs1 ls (by rw [← ht]; exact hB.1) hS1 hl)
theorem G_cSv (hC : Ck p s m args c cc nL Ts own D cs sa n ad A) {y : MethodName} {bytes : ByteArray} {maxL N index : Nat} {ret : Option FieldType} {ws : List Cond} {rm : Room} {As : List Value} {post : (Nat → va_E) → Prop} (stk : List Value) (hM : Met l y ws rm (va_Pc As (Wd D cs sa n ad A en)) (va_Qv post (Wd D cs sa n ad A) A) 0 0 A) (cw : CallB R s args own index y bytes maxL ret ws rm 0 0 N ∧ (Cond.static y).before args s = true) (hn : As.length = N) (hst : (st.map fun v => v.category).sum ≤ 8) (hce : cells ≤ R.cells) (hsl : slots ≤ R.slots) (hstk : stk = As.reverse ++ st) (d : decode cc pc = .ok (.invokestatic index, 3)) (kk : ∀ (u : Nat → va_E), post u → G p l e R s m args below meth c D n ad A nL cells slots Q u (pc + 3) lv (st)) : G p l e R s m args below meth c D n ad A nL cells slots Q en pc lv stk := fun H locs ls hP hS hl => by
  subst hstk
  exact va_callv (va_runS (As := As) (rest := st) hC.1 hM cw ⟨Wd.blind, fun U hU hW => ⟨rfl, hC.wd hP hS hU hW⟩⟩ rfl hn hl.1 rfl (lv_room hst) d ⟨hce, hsl⟩) hS (fun _ _ h => h) (fun _ h => h) (fun u t H1 locs1 ht hvm hw hB hz hk hS1 => kk u hw H1 locs1 ls (by rw [← ht]; exact hB.1) hS1 hl)
theorem G_cNv (hC : Ck p s m args c cc nL Ts own D cs sa n ad A) {y : MethodName} {bytes : ByteArray} {maxL N index : Nat} {ret : Option FieldType} {ws : List Cond} {rm : Room} {host : String} {As : List Value} {post : (Nat → va_E) → Prop} (stk : List Value) (hM : Met l y ws rm (va_Pc As (Wd D cs sa n ad A en)) (va_Qv post (Wd D cs sa n ad A) A) 0 0 A) (cw : va_CN R s args own index y host bytes maxL ret ws rm 0 0 N ∧ (Cond.static y).before args s = true ∧ True) (hn : As.length = N) (hst : (st.map fun v => v.category).sum ≤ 8) (hce : cells ≤ R.cells) (hsl : slots ≤ R.slots) (hstk : stk = As.reverse ++ st) (d : decode cc pc = .ok (.invokestatic index, 3)) (kk : ∀ (u : Nat → va_E), post u → G p l e R s m args below meth c D n ad A nL cells slots Q u (pc + 3) lv (st)) : G p l e R s m args below meth c D n ad A nL cells slots Q en pc lv stk := fun H locs ls hP hS hl => by
  subst hstk
  exact va_callv (va_runSN (As := As) (rest := st) hC.1 hM cw ⟨Wd.blind, fun U hU hW => ⟨rfl, hC.wd hP hS hU hW⟩⟩ rfl hn hl.1 rfl (lv_room hst) d ⟨hce, hsl⟩) hS (fun _ _ h => h) (fun _ h => h) (fun u t H1 locs1 ht hvm hw hB hz hk hS1 => kk u hw H1 locs1 ls (by rw [← ht]; exact hB.1) hS1 hl)
theorem G_of {av : List Value} {cells slots : Nat} (hav : args = av.toArray) (hlen : (lg_sl av).length ≤ nL) (hP : va_P D vwCl (wl n ad en) s.heap) (lv : List (Nat × Value)) (hlv : lv_args 0 av = lv) (k : G p l e R s m args below meth c D n ad A nL cells slots Q en 0 lv []) : W p l e R s m args below meth c s.heap [] cells slots Q (entryFrame m args nL) := by
  subst hav
  have hl := lv_entry av (n := nL) hlen
  rw [lg_entry_eq]
  exact k s.heap [] _ hP va_S.rf (by rw [← hlv]; exact hl)
theorem fits_b {v : Int32} (h : v = 0 ∨ v = 1) : fits .boolean (.int v) = true := by rcases h with rfl | rfl <;> decide
theorem nar_c {v : Int32} (h : v = vp_nar .char v) : narrow .char (.int v) = .int v := (show narrow .char (.int v) = .int (vp_nar .char v) from rfl).trans (by rw [← h])
theorem nar_i (v : Int32) : narrow .int (.int v) = .int v := rfl
theorem G_startI {y : MethodName} {ws ws' : List Cond} {rm : Room} {av : List Value} {post : Int32 → (Nat → va_E) → Prop} {ty : FieldType} (cc : ByteArray) (nL : Nat) (lv : List (Nat × Value)) (hy : plainName y.cls = true) (hw : ws = Cond.code y cc nL (some ty) :: ws') (hlen : (lg_sl av).length ≤ nL) (hlv : lv_args 0 av = lv)
    (body : ∀ (p : Program) (e : Env) (s : State) (m : MethodId) (args : Array Value) (below : List Frame) (meth : Method) (c : Code) (Q : State → Prop), Ck p s m args c cc nL ws y.cls D cs sa n ad A → meth.name = y.name → (∀ (v : Int32) (u : Nat → va_E) (pc : Nat) (lv2 : List (Nat × Value)), narrow ty (.int v) = .int v → post v u → decode cc pc = .ok (.ireturn, 1) → G p l e rm s m args below meth c D n ad A nL 0 0 Q u pc lv2 [.int v]) → G p l e rm s m args below meth c D n ad A nL 0 0 Q en 0 lv []) :
    Met l y ws rm (va_Pc av (Wd D cs sa n ad A en)) (va_Qi post (Wd D cs sa n ad A) A) 0 0 A := by
  refine Met.ofW (cc := cc) (maxL := nL) (ret := some ty) hy hw ?_
  intro p e s m args below meth c s₁ B hml hv
  obtain ⟨hav, hP, hK, hDj, hSx⟩ := hv
  have hC : Ck p s m args c cc nL ws y.cls D cs sa n ad A := ⟨⟨B.exec, B.bytes, hml, findClass_of_methodNamed B.named, atoms_spec (ws := ws) B.pre⟩, hK, hDj, hSx⟩
  have hr := B.returns
  have hlk := B.notSynchronized
  refine G_of hav hlen hP lv hlv (body p e s m args below meth c _ hC (name_of_methodNamed B.named B.method).1 ?_)
  exact fun v u pc lv2 hnr hq d => G_zret hC hnr hlk hr hq d
theorem G_startL {y : MethodName} {ws ws' : List Cond} {rm : Room} {av : List Value} {post : Int64 → (Nat → va_E) → Prop} (cc : ByteArray) (nL : Nat) (lv : List (Nat × Value)) (hy : plainName y.cls = true) (hw : ws = Cond.code y cc nL (some .long) :: ws') (hlen : (lg_sl av).length ≤ nL) (hlv : lv_args 0 av = lv)
    (body : ∀ (p : Program) (e : Env) (s : State) (m : MethodId) (args : Array Value) (below : List Frame) (meth : Method) (c : Code) (Q : State → Prop), Ck p s m args c cc nL ws y.cls D cs sa n ad A → meth.name = y.name → (∀ (v : Int64) (u : Nat → va_E) (pc : Nat) (lv2 : List (Nat × Value)), post v u → decode cc pc = .ok (.lreturn, 1) → G p l e rm s m args below meth c D n ad A nL 0 0 Q u pc lv2 [.long v]) → G p l e rm s m args below meth c D n ad A nL 0 0 Q en 0 lv []) :
    Met l y ws rm (va_Pc av (Wd D cs sa n ad A en)) (va_Ql post (Wd D cs sa n ad A) A) 0 0 A := by
  refine Met.ofW (cc := cc) (maxL := nL) (ret := some .long) hy hw ?_
  intro p e s m args below meth c s₁ B hml hv
  obtain ⟨hav, hP, hK, hDj, hSx⟩ := hv
  have hC : Ck p s m args c cc nL ws y.cls D cs sa n ad A := ⟨⟨B.exec, B.bytes, hml, findClass_of_methodNamed B.named, atoms_spec (ws := ws) B.pre⟩, hK, hDj, hSx⟩
  have hr := B.returns
  have hlk := B.notSynchronized
  refine G_of hav hlen hP lv hlv (body p e s m args below meth c _ hC (name_of_methodNamed B.named B.method).1 ?_)
  exact fun v u pc lv2 hq d => G_lret hC hlk hr hq d
theorem G_startQ {y : MethodName} {ws ws' : List Cond} {rm : Room} {av : List Value} {post : Option Nat → (Nat → va_E) → Prop} {C : String} (cc : ByteArray) (nL : Nat) (lv : List (Nat × Value)) (hy : plainName y.cls = true) (hw : ws = Cond.code y cc nL (some (.object C)) :: ws') (hlen : (lg_sl av).length ≤ nL) (hlv : lv_args 0 av = lv)
    (body : ∀ (p : Program) (e : Env) (s : State) (m : MethodId) (args : Array Value) (below : List Frame) (meth : Method) (c : Code) (Q : State → Prop), Ck p s m args c cc nL ws y.cls D cs sa n ad A → meth.name = y.name → (∀ (v : Option Nat) (u : Nat → va_E) (pc : Nat) (lv2 : List (Nat × Value)), post v u → decode cc pc = .ok (.areturn, 1) → G p l e rm s m args below meth c D n ad A nL 0 0 Q u pc lv2 [va_rf v]) → G p l e rm s m args below meth c D n ad A nL 0 0 Q en 0 lv []) :
    Met l y ws rm (va_Pc av (Wd D cs sa n ad A en)) (va_Qq post (Wd D cs sa n ad A) A) 0 0 A := by
  refine Met.ofW (cc := cc) (maxL := nL) (ret := some (.object C)) hy hw ?_
  intro p e s m args below meth c s₁ B hml hv
  obtain ⟨hav, hP, hK, hDj, hSx⟩ := hv
  have hC : Ck p s m args c cc nL ws y.cls D cs sa n ad A := ⟨⟨B.exec, B.bytes, hml, findClass_of_methodNamed B.named, atoms_spec (ws := ws) B.pre⟩, hK, hDj, hSx⟩
  have hr := B.returns
  have hlk := B.notSynchronized
  refine G_of hav hlen hP lv hlv (body p e s m args below meth c _ hC (name_of_methodNamed B.named B.method).1 ?_)
  exact fun v u pc lv2 hq d => G_aret hC hlk hr hq d
theorem G_startV {y : MethodName} {ws ws' : List Cond} {rm : Room} {av : List Value} {post : (Nat → va_E) → Prop} (cc : ByteArray) (nL : Nat) (lv : List (Nat × Value)) (hy : plainName y.cls = true) (hw : ws = Cond.code y cc nL (none) :: ws') (hlen : (lg_sl av).length ≤ nL) (hlv : lv_args 0 av = lv)
    (body : ∀ (p : Program) (e : Env) (s : State) (m : MethodId) (args : Array Value) (below : List Frame) (meth : Method) (c : Code) (Q : State → Prop), Ck p s m args c cc nL ws y.cls D cs sa n ad A → meth.name = y.name → (∀ (u : Nat → va_E) (pc : Nat) (lv2 : List (Nat × Value)), post u → decode cc pc = .ok (.return_, 1) → G p l e rm s m args below meth c D n ad A nL 0 0 Q u pc lv2 []) → G p l e rm s m args below meth c D n ad A nL 0 0 Q en 0 lv []) :
    Met l y ws rm (va_Pc av (Wd D cs sa n ad A en)) (va_Qv post (Wd D cs sa n ad A) A) 0 0 A := by
  refine Met.ofW (cc := cc) (maxL := nL) (ret := none) hy hw ?_
  intro p e s m args below meth c s₁ B hml hv
  obtain ⟨hav, hP, hK, hDj, hSx⟩ := hv
  have hC : Ck p s m args c cc nL ws y.cls D cs sa n ad A := ⟨⟨B.exec, B.bytes, hml, findClass_of_methodNamed B.named, atoms_spec (ws := ws) B.pre⟩, hK, hDj, hSx⟩
  have hr := B.returns
  have hlk := B.notSynchronized
  refine G_of hav hlen hP lv hlv (body p e s m args below meth c _ hC (name_of_methodNamed B.named B.method).1 ?_)
  exact fun u pc lv2 hq d => G_vret hC hlk hr hq d
end GG
/-! HALLS -/
abbrev HallV : Type := (Nat → Int32) × (Nat → Nat → Int64) × Int32
def hallE (cs : Nat → ClassId) (ad : Nat → Nat) (k : Nat) (v : HallV) : Nat → va_E
  | 0 => .inr (0, [.ref (ad (k + 1)), .ref (ad (k + 3)), .ref (ad (k + 5)), .ref (ad (k + 7)), .ref (ad (k + 9)), .int v.2.2])
  | 1 => .inr (5, [.int 7, .int 12, .ref (ad (k + 2)), .int (v.1 0)])
  | 2 => .inl (cs 2, 84, .inr (.inl (v.2.1 0)))
  | 3 => .inr (5, [.int 3, .int 5, .ref (ad (k + 4)), .int (v.1 1)])
  | 4 => .inl (cs 2, 15, .inr (.inl (v.2.1 1)))
  | 5 => .inr (5, [.int 2, .int 6, .ref (ad (k + 6)), .int (v.1 2)])
  | 6 => .inl (cs 2, 12, .inr (.inl (v.2.1 2)))
  | 7 => .inr (5, [.int 8, .int 1, .ref (ad (k + 8)), .int (v.1 3)])
  | 8 => .inl (cs 2, 8, .inr (.inl (v.2.1 3)))
  | 9 => .inr (5, [.int 5, .int 1, .ref (ad (k + 10)), .int (v.1 4)])
  | _ => .inl (cs 2, 5, .inr (.inl (v.2.1 4)))
/-- a hall stands at the places k .. k + 10 -/
def Hall (cs : Nat → ClassId) (ad : Nat → Nat) (en : Nat → va_E) (k : Nat) (v : HallV) : Prop := ∀ j, j < 11 → en (k + j) = hallE cs ad k v j
theorem Hall.fr {cs : Nat → ClassId} {ad : Nat → Nat} {en u : Nat → va_E} {k : Nat} {v : HallV} (h : Hall cs ad en k v) (hf : ∀ j, k ≤ j → j < k + 11 → u j = en j) : Hall cs ad u k v := fun j hj => (hf (k + j) (by omega) (by omega)).trans (h j hj)
def hsR (v : HallV) (t : Nat) (r : Int32) : HallV := (va_up v.1 t r, v.2.1, v.2.2)
def hsC (v : HallV) (t : Nat) (f : Nat → Int64) : HallV := (v.1, va_up v.2.1 t f, v.2.2)
def hsD (v : HallV) (d : Int32) : HallV := (v.1, v.2.1, d)
/-- the images' and the ring's rows of references -/
def ringF (ad : Nat → Nat) : Nat → Option Nat := fun j => if j < 4 then some (ad (14 + 11 * j)) else none
def imgF (ad : Nat → Nat) : Nat → Option Nat := fun j => if j < 2 then some (ad (59 + 11 * j)) else none
theorem ringF_at {ad : Nat → Nat} {x : Int32} (h : ¬ (x < 0 ∨ 4 ≤ x.toNatClampNeg)) : va_rf (ringF ad x.toNatClampNeg) = .ref (ad (14 + 11 * x.toNatClampNeg)) := by
  have h2 : x.toNatClampNeg < 4 := by rcases Nat.lt_or_ge x.toNatClampNeg 4 with q | q; exact q; exact absurd (Or.inr q) h
  simp only [ringF, if_pos h2, va_rf]
theorem imgF_at {ad : Nat → Nat} {x : Int32} (h : ¬ (x < 0 ∨ 2 ≤ x.toNatClampNeg)) : va_rf (imgF ad x.toNatClampNeg) = .ref (ad (59 + 11 * x.toNatClampNeg)) := by
  have h2 : x.toNatClampNeg < 2 := by rcases Nat.lt_or_ge x.toNatClampNeg 2 with q | q; exact q; exact absurd (Or.inr q) h
  simp only [imgF, if_pos h2, va_rf]
theorem Hall.upD {cs : Nat → ClassId} {ad : Nat → Nat} {en u : Nat → va_E} {k : Nat} {v : HallV} {d : Int32} (h : Hall cs ad en k v) (h0 : u k = hallE cs ad k (hsD v d) 0) (hf : ∀ j, j ≠ k → u j = en j) : Hall cs ad u k (hsD v d) := by
  intro j hj
  match j, hj with
  | 0, _ => exact h0
  | 1, hj => exact (hf _ (by omega)).trans (h 1 hj)
  | 2, hj => exact (hf _ (by omega)).trans (h 2 hj)
  | 3, hj => exact (hf _ (by omega)).trans (h 3 hj)
  | 4, hj => exact (hf _ (by omega)).trans (h 4 hj)
  | 5, hj => exact (hf _ (by omega)).trans (h 5 hj)
  | 6, hj => exact (hf _ (by omega)).trans (h 6 hj)
  | 7, hj => exact (hf _ (by omega)).trans (h 7 hj)
  | 8, hj => exact (hf _ (by omega)).trans (h 8 hj)
  | 9, hj => exact (hf _ (by omega)).trans (h 9 hj)
  | 10, hj => exact (hf _ (by omega)).trans (h 10 hj)
theorem Hall.upR0 {cs : Nat → ClassId} {ad : Nat → Nat} {en u : Nat → va_E} {k : Nat} {v : HallV} {r : Int32} (h : Hall cs ad en k v) (h1 : u (k + 1) = .inr (5, [.int 7, .int 12, .ref (ad (k + 1 + 1)), .int r])) (hf : ∀ j, (j < k + 1 ∨ k + 1 + 1 ≤ j) → u j = en j) : Hall cs ad u k (hsR v 0 r) := by
  intro j hj
  match j, hj with
  | 0, hj => exact (hf _ (by omega)).trans ((h 0 hj).trans (by simp [hallE, hsR, va_up]))
  | 1, _ => exact h1.trans (by simp [hallE, hsR, va_up, Nat.add_assoc])
  | 2, hj => exact (hf _ (by omega)).trans ((h 2 hj).trans (by simp [hallE, hsR, va_up]))
  | 3, hj => exact (hf _ (by omega)).trans ((h 3 hj).trans (by simp [hallE, hsR, va_up]))
  | 4, hj => exact (hf _ (by omega)).trans ((h 4 hj).trans (by simp [hallE, hsR, va_up]))
  | 5, hj => exact (hf _ (by omega)).trans ((h 5 hj).trans (by simp [hallE, hsR, va_up]))
  | 6, hj => exact (hf _ (by omega)).trans ((h 6 hj).trans (by simp [hallE, hsR, va_up]))
  | 7, hj => exact (hf _ (by omega)).trans ((h 7 hj).trans (by simp [hallE, hsR, va_up]))
  | 8, hj => exact (hf _ (by omega)).trans ((h 8 hj).trans (by simp [hallE, hsR, va_up]))
  | 9, hj => exact (hf _ (by omega)).trans ((h 9 hj).trans (by simp [hallE, hsR, va_up]))
  | 10, hj => exact (hf _ (by omega)).trans ((h 10 hj).trans (by simp [hallE, hsR, va_up]))
theorem Hall.upC0 {cs : Nat → ClassId} {ad : Nat → Nat} {en u : Nat → va_E} {k : Nat} {v : HallV} {f : Nat → Int64} (h : Hall cs ad en k v) (h1 : u (k + 1 + 1) = .inl (cs 2, 84, .inr (.inl f))) (hf : ∀ j, (j < k + 1 + 1 ∨ k + 1 + 1 + 1 ≤ j) → u j = en j) : Hall cs ad u k (hsC v 0 f) := by
  intro j hj
  match j, hj with
  | 0, hj => exact (hf _ (by omega)).trans ((h 0 hj).trans (by simp [hallE, hsC, va_up]))
  | 1, hj => exact (hf _ (by omega)).trans ((h 1 hj).trans (by simp [hallE, hsC, va_up]))
  | 2, _ => exact h1.trans (by simp [hallE, hsC, va_up])
  | 3, hj => exact (hf _ (by omega)).trans ((h 3 hj).trans (by simp [hallE, hsC, va_up]))
  | 4, hj => exact (hf _ (by omega)).trans ((h 4 hj).trans (by simp [hallE, hsC, va_up]))
  | 5, hj => exact (hf _ (by omega)).trans ((h 5 hj).trans (by simp [hallE, hsC, va_up]))
  | 6, hj => exact (hf _ (by omega)).trans ((h 6 hj).trans (by simp [hallE, hsC, va_up]))
  | 7, hj => exact (hf _ (by omega)).trans ((h 7 hj).trans (by simp [hallE, hsC, va_up]))
  | 8, hj => exact (hf _ (by omega)).trans ((h 8 hj).trans (by simp [hallE, hsC, va_up]))
  | 9, hj => exact (hf _ (by omega)).trans ((h 9 hj).trans (by simp [hallE, hsC, va_up]))
  | 10, hj => exact (hf _ (by omega)).trans ((h 10 hj).trans (by simp [hallE, hsC, va_up]))
theorem Hall.upRC0 {cs : Nat → ClassId} {ad : Nat → Nat} {en u : Nat → va_E} {k : Nat} {v : HallV} {r : Int32} {f : Nat → Int64} (h : Hall cs ad en k v) (h1 : u (k + 1) = .inr (5, [.int 7, .int 12, .ref (ad (k + 1 + 1)), .int r])) (h2 : u (k + 1 + 1) = .inl (cs 2, 84, .inr (.inl f))) (hf : ∀ j, (j < k + 1 ∨ k + 1 + 2 ≤ j) → u j = en j) : Hall cs ad u k (hsC (hsR v 0 r) 0 f) := by
  intro j hj
  match j, hj with
  | 0, hj => exact (hf _ (by omega)).trans ((h 0 hj).trans (by simp [hallE, hsC, hsR, va_up]))
  | 1, _ => exact h1.trans (by simp [hallE, hsC, hsR, va_up, Nat.add_assoc])
  | 2, _ => exact h2.trans (by simp [hallE, hsC, hsR, va_up])
  | 3, hj => exact (hf _ (by omega)).trans ((h 3 hj).trans (by simp [hallE, hsC, hsR, va_up]))
  | 4, hj => exact (hf _ (by omega)).trans ((h 4 hj).trans (by simp [hallE, hsC, hsR, va_up]))
  | 5, hj => exact (hf _ (by omega)).trans ((h 5 hj).trans (by simp [hallE, hsC, hsR, va_up]))
  | 6, hj => exact (hf _ (by omega)).trans ((h 6 hj).trans (by simp [hallE, hsC, hsR, va_up]))
  | 7, hj => exact (hf _ (by omega)).trans ((h 7 hj).trans (by simp [hallE, hsC, hsR, va_up]))
  | 8, hj => exact (hf _ (by omega)).trans ((h 8 hj).trans (by simp [hallE, hsC, hsR, va_up]))
  | 9, hj => exact (hf _ (by omega)).trans ((h 9 hj).trans (by simp [hallE, hsC, hsR, va_up]))
  | 10, hj => exact (hf _ (by omega)).trans ((h 10 hj).trans (by simp [hallE, hsC, hsR, va_up]))
theorem Hall.upR1 {cs : Nat → ClassId} {ad : Nat → Nat} {en u : Nat → va_E} {k : Nat} {v : HallV} {r : Int32} (h : Hall cs ad en k v) (h1 : u (k + 3) = .inr (5, [.int 3, .int 5, .ref (ad (k + 3 + 1)), .int r])) (hf : ∀ j, (j < k + 3 ∨ k + 3 + 1 ≤ j) → u j = en j) : Hall cs ad u k (hsR v 1 r) := by
  intro j hj
  match j, hj with
  | 0, hj => exact (hf _ (by omega)).trans ((h 0 hj).trans (by simp [hallE, hsR, va_up]))
  | 1, hj => exact (hf _ (by omega)).trans ((h 1 hj).trans (by simp [hallE, hsR, va_up]))
  | 2, hj => exact (hf _ (by omega)).trans ((h 2 hj).trans (by simp [hallE, hsR, va_up]))
  | 3, _ => exact h1.trans (by simp [hallE, hsR, va_up, Nat.add_assoc])
  | 4, hj => exact (hf _ (by omega)).trans ((h 4 hj).trans (by simp [hallE, hsR, va_up]))
  | 5, hj => exact (hf _ (by omega)).trans ((h 5 hj).trans (by simp [hallE, hsR, va_up]))
  | 6, hj => exact (hf _ (by omega)).trans ((h 6 hj).trans (by simp [hallE, hsR, va_up]))
  | 7, hj => exact (hf _ (by omega)).trans ((h 7 hj).trans (by simp [hallE, hsR, va_up]))
  | 8, hj => exact (hf _ (by omega)).trans ((h 8 hj).trans (by simp [hallE, hsR, va_up]))
  | 9, hj => exact (hf _ (by omega)).trans ((h 9 hj).trans (by simp [hallE, hsR, va_up]))
  | 10, hj => exact (hf _ (by omega)).trans ((h 10 hj).trans (by simp [hallE, hsR, va_up]))
theorem Hall.upC1 {cs : Nat → ClassId} {ad : Nat → Nat} {en u : Nat → va_E} {k : Nat} {v : HallV} {f : Nat → Int64} (h : Hall cs ad en k v) (h1 : u (k + 3 + 1) = .inl (cs 2, 15, .inr (.inl f))) (hf : ∀ j, (j < k + 3 + 1 ∨ k + 3 + 1 + 1 ≤ j) → u j = en j) : Hall cs ad u k (hsC v 1 f) := by
  intro j hj
  match j, hj with
  | 0, hj => exact (hf _ (by omega)).trans ((h 0 hj).trans (by simp [hallE, hsC, va_up]))
  | 1, hj => exact (hf _ (by omega)).trans ((h 1 hj).trans (by simp [hallE, hsC, va_up]))
  | 2, hj => exact (hf _ (by omega)).trans ((h 2 hj).trans (by simp [hallE, hsC, va_up]))
  | 3, hj => exact (hf _ (by omega)).trans ((h 3 hj).trans (by simp [hallE, hsC, va_up]))
  | 4, _ => exact h1.trans (by simp [hallE, hsC, va_up])
  | 5, hj => exact (hf _ (by omega)).trans ((h 5 hj).trans (by simp [hallE, hsC, va_up]))
  | 6, hj => exact (hf _ (by omega)).trans ((h 6 hj).trans (by simp [hallE, hsC, va_up]))
  | 7, hj => exact (hf _ (by omega)).trans ((h 7 hj).trans (by simp [hallE, hsC, va_up]))
  | 8, hj => exact (hf _ (by omega)).trans ((h 8 hj).trans (by simp [hallE, hsC, va_up]))
  | 9, hj => exact (hf _ (by omega)).trans ((h 9 hj).trans (by simp [hallE, hsC, va_up]))
  | 10, hj => exact (hf _ (by omega)).trans ((h 10 hj).trans (by simp [hallE, hsC, va_up]))
theorem Hall.upRC1 {cs : Nat → ClassId} {ad : Nat → Nat} {en u : Nat → va_E} {k : Nat} {v : HallV} {r : Int32} {f : Nat → Int64} (h : Hall cs ad en k v) (h1 : u (k + 3) = .inr (5, [.int 3, .int 5, .ref (ad (k + 3 + 1)), .int r])) (h2 : u (k + 3 + 1) = .inl (cs 2, 15, .inr (.inl f))) (hf : ∀ j, (j < k + 3 ∨ k + 3 + 2 ≤ j) → u j = en j) : Hall cs ad u k (hsC (hsR v 1 r) 1 f) := by
  intro j hj
  match j, hj with
  | 0, hj => exact (hf _ (by omega)).trans ((h 0 hj).trans (by simp [hallE, hsC, hsR, va_up]))
  | 1, hj => exact (hf _ (by omega)).trans ((h 1 hj).trans (by simp [hallE, hsC, hsR, va_up]))
  | 2, hj => exact (hf _ (by omega)).trans ((h 2 hj).trans (by simp [hallE, hsC, hsR, va_up]))
  | 3, _ => exact h1.trans (by simp [hallE, hsC, hsR, va_up, Nat.add_assoc])
  | 4, _ => exact h2.trans (by simp [hallE, hsC, hsR, va_up])
  | 5, hj => exact (hf _ (by omega)).trans ((h 5 hj).trans (by simp [hallE, hsC, hsR, va_up]))
  | 6, hj => exact (hf _ (by omega)).trans ((h 6 hj).trans (by simp [hallE, hsC, hsR, va_up]))
  | 7, hj => exact (hf _ (by omega)).trans ((h 7 hj).trans (by simp [hallE, hsC, hsR, va_up]))
  | 8, hj => exact (hf _ (by omega)).trans ((h 8 hj).trans (by simp [hallE, hsC, hsR, va_up]))
  | 9, hj => exact (hf _ (by omega)).trans ((h 9 hj).trans (by simp [hallE, hsC, hsR, va_up]))
  | 10, hj => exact (hf _ (by omega)).trans ((h 10 hj).trans (by simp [hallE, hsC, hsR, va_up]))
theorem Hall.upR2 {cs : Nat → ClassId} {ad : Nat → Nat} {en u : Nat → va_E} {k : Nat} {v : HallV} {r : Int32} (h : Hall cs ad en k v) (h1 : u (k + 5) = .inr (5, [.int 2, .int 6, .ref (ad (k + 5 + 1)), .int r])) (hf : ∀ j, (j < k + 5 ∨ k + 5 + 1 ≤ j) → u j = en j) : Hall cs ad u k (hsR v 2 r) := by
  intro j hj
  match j, hj with
  | 0, hj => exact (hf _ (by omega)).trans ((h 0 hj).trans (by simp [hallE, hsR, va_up]))
  | 1, hj => exact (hf _ (by omega)).trans ((h 1 hj).trans (by simp [hallE, hsR, va_up]))
  | 2, hj => exact (hf _ (by omega)).trans ((h 2 hj).trans (by simp [hallE, hsR, va_up]))
  | 3, hj => exact (hf _ (by omega)).trans ((h 3 hj).trans (by simp [hallE, hsR, va_up]))
  | 4, hj => exact (hf _ (by omega)).trans ((h 4 hj).trans (by simp [hallE, hsR, va_up]))
  | 5, _ => exact h1.trans (by simp [hallE, hsR, va_up, Nat.add_assoc])
  | 6, hj => exact (hf _ (by omega)).trans ((h 6 hj).trans (by simp [hallE, hsR, va_up]))
  | 7, hj => exact (hf _ (by omega)).trans ((h 7 hj).trans (by simp [hallE, hsR, va_up]))
  | 8, hj => exact (hf _ (by omega)).trans ((h 8 hj).trans (by simp [hallE, hsR, va_up]))
  | 9, hj => exact (hf _ (by omega)).trans ((h 9 hj).trans (by simp [hallE, hsR, va_up]))
  | 10, hj => exact (hf _ (by omega)).trans ((h 10 hj).trans (by simp [hallE, hsR, va_up]))
theorem Hall.upC2 {cs : Nat → ClassId} {ad : Nat → Nat} {en u : Nat → va_E} {k : Nat} {v : HallV} {f : Nat → Int64} (h : Hall cs ad en k v) (h1 : u (k + 5 + 1) = .inl (cs 2, 12, .inr (.inl f))) (hf : ∀ j, (j < k + 5 + 1 ∨ k + 5 + 1 + 1 ≤ j) → u j = en j) : Hall cs ad u k (hsC v 2 f) := by
  intro j hj
  match j, hj with
  | 0, hj => exact (hf _ (by omega)).trans ((h 0 hj).trans (by simp [hallE, hsC, va_up]))
  | 1, hj => exact (hf _ (by omega)).trans ((h 1 hj).trans (by simp [hallE, hsC, va_up]))
  | 2, hj => exact (hf _ (by omega)).trans ((h 2 hj).trans (by simp [hallE, hsC, va_up]))
  | 3, hj => exact (hf _ (by omega)).trans ((h 3 hj).trans (by simp [hallE, hsC, va_up]))
  | 4, hj => exact (hf _ (by omega)).trans ((h 4 hj).trans (by simp [hallE, hsC, va_up]))
  | 5, hj => exact (hf _ (by omega)).trans ((h 5 hj).trans (by simp [hallE, hsC, va_up]))
  | 6, _ => exact h1.trans (by simp [hallE, hsC, va_up])
  | 7, hj => exact (hf _ (by omega)).trans ((h 7 hj).trans (by simp [hallE, hsC, va_up]))
  | 8, hj => exact (hf _ (by omega)).trans ((h 8 hj).trans (by simp [hallE, hsC, va_up]))
  | 9, hj => exact (hf _ (by omega)).trans ((h 9 hj).trans (by simp [hallE, hsC, va_up]))
  | 10, hj => exact (hf _ (by omega)).trans ((h 10 hj).trans (by simp [hallE, hsC, va_up]))
theorem Hall.upRC2 {cs : Nat → ClassId} {ad : Nat → Nat} {en u : Nat → va_E} {k : Nat} {v : HallV} {r : Int32} {f : Nat → Int64} (h : Hall cs ad en k v) (h1 : u (k + 5) = .inr (5, [.int 2, .int 6, .ref (ad (k + 5 + 1)), .int r])) (h2 : u (k + 5 + 1) = .inl (cs 2, 12, .inr (.inl f))) (hf : ∀ j, (j < k + 5 ∨ k + 5 + 2 ≤ j) → u j = en j) : Hall cs ad u k (hsC (hsR v 2 r) 2 f) := by
  intro j hj
  match j, hj with
  | 0, hj => exact (hf _ (by omega)).trans ((h 0 hj).trans (by simp [hallE, hsC, hsR, va_up]))
  | 1, hj => exact (hf _ (by omega)).trans ((h 1 hj).trans (by simp [hallE, hsC, hsR, va_up]))
  | 2, hj => exact (hf _ (by omega)).trans ((h 2 hj).trans (by simp [hallE, hsC, hsR, va_up]))
  | 3, hj => exact (hf _ (by omega)).trans ((h 3 hj).trans (by simp [hallE, hsC, hsR, va_up]))
  | 4, hj => exact (hf _ (by omega)).trans ((h 4 hj).trans (by simp [hallE, hsC, hsR, va_up]))
  | 5, _ => exact h1.trans (by simp [hallE, hsC, hsR, va_up, Nat.add_assoc])
  | 6, _ => exact h2.trans (by simp [hallE, hsC, hsR, va_up])
  | 7, hj => exact (hf _ (by omega)).trans ((h 7 hj).trans (by simp [hallE, hsC, hsR, va_up]))
  | 8, hj => exact (hf _ (by omega)).trans ((h 8 hj).trans (by simp [hallE, hsC, hsR, va_up]))
  | 9, hj => exact (hf _ (by omega)).trans ((h 9 hj).trans (by simp [hallE, hsC, hsR, va_up]))
  | 10, hj => exact (hf _ (by omega)).trans ((h 10 hj).trans (by simp [hallE, hsC, hsR, va_up]))
theorem Hall.upR3 {cs : Nat → ClassId} {ad : Nat → Nat} {en u : Nat → va_E} {k : Nat} {v : HallV} {r : Int32} (h : Hall cs ad en k v) (h1 : u (k + 7) = .inr (5, [.int 8, .int 1, .ref (ad (k + 7 + 1)), .int r])) (hf : ∀ j, (j < k + 7 ∨ k + 7 + 1 ≤ j) → u j = en j) : Hall cs ad u k (hsR v 3 r) := by
  intro j hj
  match j, hj with
  | 0, hj => exact (hf _ (by omega)).trans ((h 0 hj).trans (by simp [hallE, hsR, va_up]))
  | 1, hj => exact (hf _ (by omega)).trans ((h 1 hj).trans (by simp [hallE, hsR, va_up]))
  | 2, hj => exact (hf _ (by omega)).trans ((h 2 hj).trans (by simp [hallE, hsR, va_up]))
  | 3, hj => exact (hf _ (by omega)).trans ((h 3 hj).trans (by simp [hallE, hsR, va_up]))
  | 4, hj => exact (hf _ (by omega)).trans ((h 4 hj).trans (by simp [hallE, hsR, va_up]))
  | 5, hj => exact (hf _ (by omega)).trans ((h 5 hj).trans (by simp [hallE, hsR, va_up]))
  | 6, hj => exact (hf _ (by omega)).trans ((h 6 hj).trans (by simp [hallE, hsR, va_up]))
  | 7, _ => exact h1.trans (by simp [hallE, hsR, va_up, Nat.add_assoc])
  | 8, hj => exact (hf _ (by omega)).trans ((h 8 hj).trans (by simp [hallE, hsR, va_up]))
  | 9, hj => exact (hf _ (by omega)).trans ((h 9 hj).trans (by simp [hallE, hsR, va_up]))
  | 10, hj => exact (hf _ (by omega)).trans ((h 10 hj).trans (by simp [hallE, hsR, va_up]))
theorem Hall.upC3 {cs : Nat → ClassId} {ad : Nat → Nat} {en u : Nat → va_E} {k : Nat} {v : HallV} {f : Nat → Int64} (h : Hall cs ad en k v) (h1 : u (k + 7 + 1) = .inl (cs 2, 8, .inr (.inl f))) (hf : ∀ j, (j < k + 7 + 1 ∨ k + 7 + 1 + 1 ≤ j) → u j = en j) : Hall cs ad u k (hsC v 3 f) := by
  intro j hj
  match j, hj with
  | 0, hj => exact (hf _ (by omega)).trans ((h 0 hj).trans (by simp [hallE, hsC, va_up]))
  | 1, hj => exact (hf _ (by omega)).trans ((h 1 hj).trans (by simp [hallE, hsC, va_up]))
  | 2, hj => exact (hf _ (by omega)).trans ((h 2 hj).trans (by simp [hallE, hsC, va_up]))
  | 3, hj => exact (hf _ (by omega)).trans ((h 3 hj).trans (by simp [hallE, hsC, va_up]))
  | 4, hj => exact (hf _ (by omega)).trans ((h 4 hj).trans (by simp [hallE, hsC, va_up]))
  | 5, hj => exact (hf _ (by omega)).trans ((h 5 hj).trans (by simp [hallE, hsC, va_up]))
  | 6, hj => exact (hf _ (by omega)).trans ((h 6 hj).trans (by simp [hallE, hsC, va_up]))
  | 7, hj => exact (hf _ (by omega)).trans ((h 7 hj).trans (by simp [hallE, hsC, va_up]))
  | 8, _ => exact h1.trans (by simp [hallE, hsC, va_up])
  | 9, hj => exact (hf _ (by omega)).trans ((h 9 hj).trans (by simp [hallE, hsC, va_up]))
  | 10, hj => exact (hf _ (by omega)).trans ((h 10 hj).trans (by simp [hallE, hsC, va_up]))
theorem Hall.upRC3 {cs : Nat → ClassId} {ad : Nat → Nat} {en u : Nat → va_E} {k : Nat} {v : HallV} {r : Int32} {f : Nat → Int64} (h : Hall cs ad en k v) (h1 : u (k + 7) = .inr (5, [.int 8, .int 1, .ref (ad (k + 7 + 1)), .int r])) (h2 : u (k + 7 + 1) = .inl (cs 2, 8, .inr (.inl f))) (hf : ∀ j, (j < k + 7 ∨ k + 7 + 2 ≤ j) → u j = en j) : Hall cs ad u k (hsC (hsR v 3 r) 3 f) := by
  intro j hj
  match j, hj with
  | 0, hj => exact (hf _ (by omega)).trans ((h 0 hj).trans (by simp [hallE, hsC, hsR, va_up]))
  | 1, hj => exact (hf _ (by omega)).trans ((h 1 hj).trans (by simp [hallE, hsC, hsR, va_up]))
  | 2, hj => exact (hf _ (by omega)).trans ((h 2 hj).trans (by simp [hallE, hsC, hsR, va_up]))
  | 3, hj => exact (hf _ (by omega)).trans ((h 3 hj).trans (by simp [hallE, hsC, hsR, va_up]))
  | 4, hj => exact (hf _ (by omega)).trans ((h 4 hj).trans (by simp [hallE, hsC, hsR, va_up]))
  | 5, hj => exact (hf _ (by omega)).trans ((h 5 hj).trans (by simp [hallE, hsC, hsR, va_up]))
  | 6, hj => exact (hf _ (by omega)).trans ((h 6 hj).trans (by simp [hallE, hsC, hsR, va_up]))
  | 7, _ => exact h1.trans (by simp [hallE, hsC, hsR, va_up, Nat.add_assoc])
  | 8, _ => exact h2.trans (by simp [hallE, hsC, hsR, va_up])
  | 9, hj => exact (hf _ (by omega)).trans ((h 9 hj).trans (by simp [hallE, hsC, hsR, va_up]))
  | 10, hj => exact (hf _ (by omega)).trans ((h 10 hj).trans (by simp [hallE, hsC, hsR, va_up]))
theorem Hall.upR4 {cs : Nat → ClassId} {ad : Nat → Nat} {en u : Nat → va_E} {k : Nat} {v : HallV} {r : Int32} (h : Hall cs ad en k v) (h1 : u (k + 9) = .inr (5, [.int 5, .int 1, .ref (ad (k + 9 + 1)), .int r])) (hf : ∀ j, (j < k + 9 ∨ k + 9 + 1 ≤ j) → u j = en j) : Hall cs ad u k (hsR v 4 r) := by
  intro j hj
  match j, hj with
  | 0, hj => exact (hf _ (by omega)).trans ((h 0 hj).trans (by simp [hallE, hsR, va_up]))
  | 1, hj => exact (hf _ (by omega)).trans ((h 1 hj).trans (by simp [hallE, hsR, va_up]))
  | 2, hj => exact (hf _ (by omega)).trans ((h 2 hj).trans (by simp [hallE, hsR, va_up]))
  | 3, hj => exact (hf _ (by omega)).trans ((h 3 hj).trans (by simp [hallE, hsR, va_up]))
  | 4, hj => exact (hf _ (by omega)).trans ((h 4 hj).trans (by simp [hallE, hsR, va_up]))
  | 5, hj => exact (hf _ (by omega)).trans ((h 5 hj).trans (by simp [hallE, hsR, va_up]))
  | 6, hj => exact (hf _ (by omega)).trans ((h 6 hj).trans (by simp [hallE, hsR, va_up]))
  | 7, hj => exact (hf _ (by omega)).trans ((h 7 hj).trans (by simp [hallE, hsR, va_up]))
  | 8, hj => exact (hf _ (by omega)).trans ((h 8 hj).trans (by simp [hallE, hsR, va_up]))
  | 9, _ => exact h1.trans (by simp [hallE, hsR, va_up, Nat.add_assoc])
  | 10, hj => exact (hf _ (by omega)).trans ((h 10 hj).trans (by simp [hallE, hsR, va_up]))
theorem Hall.upC4 {cs : Nat → ClassId} {ad : Nat → Nat} {en u : Nat → va_E} {k : Nat} {v : HallV} {f : Nat → Int64} (h : Hall cs ad en k v) (h1 : u (k + 9 + 1) = .inl (cs 2, 5, .inr (.inl f))) (hf : ∀ j, (j < k + 9 + 1 ∨ k + 9 + 1 + 1 ≤ j) → u j = en j) : Hall cs ad u k (hsC v 4 f) := by
  intro j hj
  match j, hj with
  | 0, hj => exact (hf _ (by omega)).trans ((h 0 hj).trans (by simp [hallE, hsC, va_up]))
  | 1, hj => exact (hf _ (by omega)).trans ((h 1 hj).trans (by simp [hallE, hsC, va_up]))
  | 2, hj => exact (hf _ (by omega)).trans ((h 2 hj).trans (by simp [hallE, hsC, va_up]))
  | 3, hj => exact (hf _ (by omega)).trans ((h 3 hj).trans (by simp [hallE, hsC, va_up]))
  | 4, hj => exact (hf _ (by omega)).trans ((h 4 hj).trans (by simp [hallE, hsC, va_up]))
  | 5, hj => exact (hf _ (by omega)).trans ((h 5 hj).trans (by simp [hallE, hsC, va_up]))
  | 6, hj => exact (hf _ (by omega)).trans ((h 6 hj).trans (by simp [hallE, hsC, va_up]))
  | 7, hj => exact (hf _ (by omega)).trans ((h 7 hj).trans (by simp [hallE, hsC, va_up]))
  | 8, hj => exact (hf _ (by omega)).trans ((h 8 hj).trans (by simp [hallE, hsC, va_up]))
  | 9, hj => exact (hf _ (by omega)).trans ((h 9 hj).trans (by simp [hallE, hsC, va_up]))
  | 10, _ => exact h1.trans (by simp [hallE, hsC, va_up])
theorem Hall.upRC4 {cs : Nat → ClassId} {ad : Nat → Nat} {en u : Nat → va_E} {k : Nat} {v : HallV} {r : Int32} {f : Nat → Int64} (h : Hall cs ad en k v) (h1 : u (k + 9) = .inr (5, [.int 5, .int 1, .ref (ad (k + 9 + 1)), .int r])) (h2 : u (k + 9 + 1) = .inl (cs 2, 5, .inr (.inl f))) (hf : ∀ j, (j < k + 9 ∨ k + 9 + 2 ≤ j) → u j = en j) : Hall cs ad u k (hsC (hsR v 4 r) 4 f) := by
  intro j hj
  match j, hj with
  | 0, hj => exact (hf _ (by omega)).trans ((h 0 hj).trans (by simp [hallE, hsC, hsR, va_up]))
  | 1, hj => exact (hf _ (by omega)).trans ((h 1 hj).trans (by simp [hallE, hsC, hsR, va_up]))
  | 2, hj => exact (hf _ (by omega)).trans ((h 2 hj).trans (by simp [hallE, hsC, hsR, va_up]))
  | 3, hj => exact (hf _ (by omega)).trans ((h 3 hj).trans (by simp [hallE, hsC, hsR, va_up]))
  | 4, hj => exact (hf _ (by omega)).trans ((h 4 hj).trans (by simp [hallE, hsC, hsR, va_up]))
  | 5, hj => exact (hf _ (by omega)).trans ((h 5 hj).trans (by simp [hallE, hsC, hsR, va_up]))
  | 6, hj => exact (hf _ (by omega)).trans ((h 6 hj).trans (by simp [hallE, hsC, hsR, va_up]))
  | 7, hj => exact (hf _ (by omega)).trans ((h 7 hj).trans (by simp [hallE, hsC, hsR, va_up]))
  | 8, hj => exact (hf _ (by omega)).trans ((h 8 hj).trans (by simp [hallE, hsC, hsR, va_up]))
  | 9, _ => exact h1.trans (by simp [hallE, hsC, hsR, va_up, Nat.add_assoc])
  | 10, _ => exact h2.trans (by simp [hallE, hsC, hsR, va_up])
theorem oel_n {α β : Type} {a : β} {f : α → β} {x : β} (h : Option.elim none a f = x) : a = x := h
theorem oel_s {α β : Type} {z : α} {a : β} {f : α → β} {x : β} (h : Option.elim (some z) a f = x) : f z = x := h
theorem fam_up {cs : Nat → ClassId} {ad : Nat → Nat} {en u : Nat → va_E} {b m z : Nat} {r : Nat → HallV} {v : HallV} (h : ∀ i, i < m → Hall cs ad en (b + 11 * i) (r i)) (hz : Hall cs ad u (b + 11 * z) v) (fr : ∀ j, (j < b + 11 * z ∨ b + 11 * z + 11 ≤ j) → u j = en j) : ∀ i, i < m → Hall cs ad u (b + 11 * i) (va_up r z v i) := by
  intro i hi
  by_cases e : i = z
  · subst e; rw [va_up_self]; exact hz
  · rw [va_up_ne _ _ e]; exact (h i hi).fr (fun j h1 h2 => fr j (by omega))
theorem sw_out {x : Int32} (a m : Nat) (hm : m < 1000) (h : ∀ i, a ≤ i → i < m + 1 → ¬ x = Int32.ofNat i) : x.toInt < ((a : Nat) : Int) ∨ ((m : Nat) : Int) < x.toInt := by
  rcases Int.lt_or_le x.toInt (a : Int) with q | q
  · exact Or.inl q
  · rcases Int.lt_or_le (m : Int) x.toInt with r | r
    · exact Or.inr r
    · exfalso
      refine h x.toInt.toNat (by omega) (by omega) ?_
      apply Int32.toInt_inj.mp
      have hz : (nI x.toInt.toNat).toInt = (x.toInt.toNat : Int) := nI_toInt (by omega)
      show x.toInt = (nI x.toInt.toNat).toInt
      rw [hz]; omega
def FU : Nat := 1000000
