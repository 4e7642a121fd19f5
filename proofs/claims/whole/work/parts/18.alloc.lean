/-! MAKING: new objects and arrays, constructors -/
section GA
variable {p : Program} {l : Launch} {e : Env} {R : Room} {s : State} {m : MethodId} {args : Array Value} {below : List Frame} {meth : Method} {c : Code} {D : va_G} {cs : Nat → ClassId} {sa : Nat → Nat} {n : Nat} {ad : Nat → Nat} {A : Nat → Prop} {nL cells slots : Nat} {Q : State → Prop} {en : Nat → va_E} {cc : ByteArray} {Ts : List Cond} {own : String} {pc : Nat} {lv : List (Nat × Value)} {st : List Value}
theorem cA_same {ti : Nat} {cA : ClassId} {ty : FieldType} (h1 : va_RA s (cs ti) ty) (h2 : va_RA s cA ty) : cA = cs ti := by
  cases ty with
  | object C =>
    obtain ⟨_, _, _, _, _, h1⟩ := h1
    obtain ⟨_, _, _, _, _, h2⟩ := h2
    exact Option.some.inj (h2.symm.trans h1)
  | _ => exact Option.some.inj (Eq.trans (Eq.symm h2) h1)
def WdA (D : va_G) (cs : Nat → ClassId) (sa : Nat → Nat) (n : Nat) (ad : Nat → Nat) (A : Nat → Prop) (en : Nat → va_E) (U : State) : Prop := Wd D cs sa n ad A en U ∧ (∀ q, U.heap.size ≤ q → A q) ∧ va_AO "TongueTip$Hall" U
theorem WdA.blind {av : List Value} : FrameBlind (va_Pc av (WdA D cs sa n ad A en)) := fun a U g mk h => ⟨h.1, (Wd.blind (av := av) a U g mk ⟨h.1, h.2.1⟩).2, h.2.2.1, va_AO.moved (u := U) (U := U.calling g mk a) (Vm.Alike.refl U.vm) h.2.2.2⟩
theorem Ck.grow {q : Nat} {x : va_E} (hC : Ck p s m args c cc nL Ts own D cs sa n ad A) (hD : va_D A (wl n ad en ++ [(q, x)])) : Ck p s m args c cc nL Ts own D cs sa (n + 1) (va_up ad n q) A := ⟨hC.1, hC.2.1, Dj.of (en := va_up en n x) (by rw [← wl_push]; exact hD), hC.2.2.2⟩
theorem G_newo (hC : Ck p s m args c cc nL Ts own D cs sa n ad A) (hA : ∀ q, s.heap.size ≤ q → A q) {C : String} {T : u_T} {N ci index : Nat} (fs : List Value) (hin : ∀ w ∈ u_ws C T N, w ∈ Ts) (ty : Nat → FieldType) (hty : ∀ k, k < N → parseFieldDescriptor (T k).2.2.1 = some (ty k)) (h1 : Cond.classLink own index C ∈ Ts) (h2 : Cond.instantiable C N ∈ Ts) (h3 : Cond.initialized C ∈ Ts) (hc : vwCl[ci]? = some (C, T, N)) (hfs : ∀ j, j < N → defaultValue (ty j) = vp_V fs j) (hce : cells + 1 ≤ R.cells) (hsl : slots + N ≤ R.slots) (d : decode cc pc = .ok (.new index, 3)) (kk : ∀ (ad2 : Nat → Nat) (en2 : Nat → va_E), (∀ j, j < n → ad2 j = ad j) → (∀ j, j < n → en2 j = en j) → en2 n = .inr (ci, fs) → Ck p s m args c cc nL Ts own D cs sa (n + 1) ad2 A → G p l e R s m args below meth c D (n + 1) ad2 A nL (cells + 1) (slots + N) Q en2 (pc + 3) lv (.ref (ad2 n) :: st)) : G p l e R s m args below meth c D n ad A nL cells slots Q en pc lv st := fun H locs ls hP hS hl => va_new (c0 := c) hC.1.1 hC.1.2.1 hC.hts hin ty hty hC.1.2.2.2.1 (hC.hts _ h1) (hC.hts _ h2) (hC.hts _ h3) hC.2.1 hP (hC.2.2.1.w en) hS hA hc hfs hce hsl d (fun q H1 hP1 hD1 hS1 => by
  have K := kk (va_up ad n q) (va_up en n (.inr (ci, fs))) (fun j hj => va_up_ne _ _ (by omega)) (fun j hj => va_up_ne _ _ (by omega)) (va_up_self _ _ _) (hC.grow hD1) H1 locs ls (by rw [← wl_push]; exact hP1) hS1 hl
  rw [va_up_self] at K
  exact K)
theorem G_newa (hC : Ck p s m args c cc nL Ts own D cs sa n ad A) (hA : ∀ q, s.heap.size ≤ q → A q) {atype : ArrayType} {ty : FieldType} {z : Int32} {N : Nat} (ti : Nat) (a0 : vp_A) (h1 : Cond.arrayClass (newarray.typeOf atype) ∈ Ts) (hty : newarray.typeOf atype = ty) (ht : (tyL cs)[ti]? = some (cs ti, ty)) (ha : ∀ cA : ClassId, vp_cell cA a0 = arrV cA N (fun _ => defaultValue ty)) (hn : ¬ z < 0) (hN : z.toNatClampNeg = N) (hb : N * componentBytes ty ≤ 536870912) (hce : cells + 1 ≤ R.cells) (hsl : slots + N ≤ R.slots) (d : decode cc pc = .ok (.newarray atype, 2)) (kk : ∀ (ad2 : Nat → Nat) (en2 : Nat → va_E), (∀ j, j < n → ad2 j = ad j) → (∀ j, j < n → en2 j = en j) → en2 n = .inl (cs ti, a0) → Ck p s m args c cc nL Ts own D cs sa (n + 1) ad2 A → G p l e R s m args below meth c D (n + 1) ad2 A nL (cells + 1) (slots + N) Q en2 (pc + 2) lv (.ref (ad2 n) :: st)) : G p l e R s m args below meth c D n ad A nL cells slots Q en pc lv (.int z :: st) := fun H locs ls hP hS hl => va_newa hC.1.1 hC.1.2.1 (hC.hts _ h1) hty hC.2.1 hP (hC.2.2.1.w en) hS hA ha hn hN hb hce hsl d (fun q cA H1 hK1 hP1 hD1 hS1 => by
  have hcA : cA = cs ti := cA_same (cs := cs) (hC.2.1.2 ti _ ht).2 (hK1.2 5 _ (by rfl)).2
  subst hcA
  have K := kk (va_up ad n q) (va_up en n (.inl (cs ti, a0))) (fun j hj => va_up_ne _ _ (by omega)) (fun j hj => va_up_ne _ _ (by omega)) (va_up_self _ _ _) (hC.grow hD1) H1 locs ls (by rw [← wl_push]; exact hP1) hS1 hl
  rw [va_up_self] at K
  exact K)
theorem G_newr (hC : Ck p s m args c cc nL Ts own D cs sa n ad A) (hA : ∀ q, s.heap.size ≤ q → A q) (hO : va_AO "TongueTip$Hall" s) {index : Nat} {z : Int32} {N : Nat} (h1 : Cond.classLink own index "TongueTip$Hall" ∈ Ts) (hn : ¬ z < 0) (hN : z.toNatClampNeg = N) (hb : N * 4 ≤ 536870912) (hce : cells + 1 ≤ R.cells) (hsl : slots + N ≤ R.slots) (d : decode cc pc = .ok (.anewarray index, 3)) (kk : ∀ (ad2 : Nat → Nat) (en2 : Nat → va_E), (∀ j, j < n → ad2 j = ad j) → (∀ j, j < n → en2 j = en j) → en2 n = .inl (cs 4, N, .inr (.inr (.inr (.inr (fun _ => none))))) → Ck p s m args c cc nL Ts own D cs sa (n + 1) ad2 A → G p l e R s m args below meth c D (n + 1) ad2 A nL (cells + 1) (slots + N) Q en2 (pc + 3) lv (.ref (ad2 n) :: st)) : G p l e R s m args below meth c D n ad A nL cells slots Q en pc lv (.int z :: st) := fun H locs ls hP hS hl => va_newq hC.1.1 hC.1.2.1 hC.1.2.2.2.1 (hC.hts _ h1) hO hC.2.1 hP (hC.2.2.1.w en) hS hA hn hN hb hce hsl d (fun q cA H1 hK1 hP1 hD1 hS1 => by
  have hcA : cA = cs 4 := cA_same (cs := cs) (hC.2.1.2 4 _ rfl).2 (hK1.2 5 _ (by rfl)).2
  subst hcA
  have K := kk (va_up ad n q) (va_up en n (.inl (cs 4, N, .inr (.inr (.inr (.inr (fun _ => none))))))) (fun j hj => va_up_ne _ _ (by omega)) (fun j hj => va_up_ne _ _ (by omega)) (va_up_self _ _ _) (hC.grow hD1) H1 locs ls (by rw [← wl_push]; exact hP1) hS1 hl
  rw [va_up_self] at K
  exact K)
theorem G_objInit (hC : Ck p s m args c cc nL Ts own D cs sa n ad A) {index q : Nat} (h1 : Cond.methodLink own index Lib.objectInit ∈ Ts) (h2 : Cond.instanceMethod Lib.objectInit ∈ Ts) (h3 : Cond.code Lib.objectInit ⟨#[0xb1]⟩ 1 none ∈ Ts) (hf : 1 ≤ R.frames) (hlo : 2 * 0 + (st.map fun v => v.category).sum + 12 ≤ R.locals) (d : decode cc pc = .ok (.invokespecial index, 3)) (k : G p l e R s m args below meth c D n ad A nL cells slots Q en (pc + 3) lv st) : G p l e R s m args below meth c D n ad A nL cells slots Q en pc lv (.ref q :: st) := fun H locs ls hP hS hl => W.objInit hC.1.1 hC.1.2.1 hC.1.2.2.2.1 (hC.hts _ h1) (hC.hts _ h2) (hC.hts _ h3) rfl (hl.1.trans hC.1.2.2.1.symm) rfl d hf hlo (k H locs ls hP hS hl)
theorem G_cA (hC : Ck p s m args c cc nL Ts own D cs sa n ad A) (hA : ∀ q, s.heap.size ≤ q → A q) (hO : va_AO "TongueTip$Hall" s) {y : MethodName} {bytes : ByteArray} {maxL N index n2 mc ms : Nat} {ws : List Cond} {rm : Room} {As : List Value} {post : (Nat → Nat) × (Nat → va_E) → Prop} (stk : List Value) (q : Nat) (hM : Met l y ws rm (va_Pc (.ref (ad q) :: As) (WdA D cs sa n ad A en)) (va_Qv post (fun u => Wd D cs sa n2 u.1 A u.2) A) mc ms A) (cw : CallB R s args own index y bytes maxL none ws rm mc ms N ∧ y.name = "<init>" ∧ (Cond.instanceMethod y).before args s = true) (hn : As.length = N) (hst : (st.map fun v => v.category).sum ≤ 8) (hce : cells + mc ≤ R.cells) (hsl : slots + ms ≤ R.slots) (hstk : stk = As.reverse ++ .ref (ad q) :: st) (d : decode cc pc = .ok (.invokespecial index, 3))
    (kk : ∀ (ad2 : Nat → Nat) (en2 : Nat → va_E), post (ad2, en2) → Ck p s m args c cc nL Ts own D cs sa n2 ad2 A → G p l e R s m args below meth c D n2 ad2 A nL (cells + mc) (slots + ms) Q en2 (pc + 3) lv st) : G p l e R s m args below meth c D n ad A nL cells slots Q en pc lv stk := fun H locs ls hP hS hl => by
  subst hstk
  exact va_callv (va_runI (As := As) (rest := st) hC.1 hM cw ⟨WdA.blind, fun U hU hW => ⟨rfl, hC.wd hP hS hU hW, fun q hq => hA q (Nat.le_trans hS.1 (by rw [← hU]; exact hq)), va_AO.moved hW.alike hO⟩⟩ rfl hn hl.1 rfl (lv_room hst) d ⟨hce, hsl⟩) hS (fun _ _ h => h) (fun _ h => h) (fun u t H1 locs1 ht hvm hw hB hz hk hS1 => kk u.1 u.2 hw ⟨hC.1, hC.2.1, hB.2.2.1, hC.2.2.2⟩ H1 locs1 ls (by rw [← ht]; exact hB.1) hS1 hl)
theorem G_vretA {n2 : Nat} {ad2 : Nat → Nat} {en2 : Nat → va_E} (hC : Ck p s m args c cc nL Ts own D cs sa n2 ad2 A) {post : (Nat → Nat) × (Nat → va_E) → Prop} (hlk : meth.locks = false) (hr : meth.sig.returnType = none) (hq : post (ad2, en2)) (d : decode cc pc = .ok (.return_, 1)) : G p l e R s m args below meth c D n2 ad2 A nL cells slots (MQ below (va_Qv post (fun u => Wd D cs sa n2 u.1 A u.2) A) args s cells slots A) en2 pc lv [] := fun H locs ls hP hS hl => W.vret hC.1.1 hC.1.2.1 hr (fun t ht hW => ⟨⟨(ad2, en2), rfl, hq, hC.wd hP hS ht hW⟩, hS.F ht⟩) hS.2.2 d hlk
theorem G_astq (hC : Ck p s m args c cc nL Ts own D cs sa n ad A) {N : Nat} {f : Nat → Option Nat} {i : Int32} {vs : List Value} (q v : Nat) (hq : q < n) (hv : v < n) (he : en q = .inl (cs 4, N, .inr (.inr (.inr (.inr f))))) (h2 : en v = .inr (0, vs)) (hi : ¬ (i < 0 ∨ N ≤ i.toNatClampNeg)) (d : decode cc pc = .ok (.aastore, 1)) (k : ∀ u : Nat → va_E, u q = .inl (cs 4, N, .inr (.inr (.inr (.inr (va_up f i.toNatClampNeg (some (ad v))))))) → (∀ j, j ≠ q → u j = en j) → G p l e R s m args below meth c D n ad A nL cells slots Q u (pc + 1) lv st) : G p l e R s m args below meth c D n ad A nL cells slots Q en pc lv (.ref (ad v) :: .int i :: .ref (ad q) :: st) := fun H locs ls hP hS hl => va_astq (r := (RX1, TX1, 6)) hC.1.1 hC.1.2.1 hC.2.1 hP (hC.2.2.1.w en) hS q 4 v 0 (wl_at hq he) rfl (wl_at hv h2) rfl hi d (fun H1 locs1 hP1 _ hS1 => k _ (va_up_self _ _ _) (fun j hj => va_up_ne _ _ hj) H1 locs1 ls (by rw [← wl_set]; exact hP1) hS1 hl)
theorem G_startA {y : MethodName} {ws ws' : List Cond} {rm : Room} {av : List Value} {n2 mc ms : Nat} {post : (Nat → Nat) × (Nat → va_E) → Prop} (cc : ByteArray) (nL : Nat) (lv : List (Nat × Value)) (hy : plainName y.cls = true) (hw : ws = Cond.code y cc nL none :: ws') (hlen : (lg_sl av).length ≤ nL) (hlv : lv_args 0 av = lv)
    (body : ∀ (p : Program) (e : Env) (s : State) (m : MethodId) (args : Array Value) (below : List Frame) (meth : Method) (c : Code) (Q : State → Prop), Ck p s m args c cc nL ws y.cls D cs sa n ad A → meth.name = y.name → (∀ q, s.heap.size ≤ q → A q) → va_AO "TongueTip$Hall" s → (∀ (ad2 : Nat → Nat) (u : Nat → va_E) (pc : Nat) (lv2 : List (Nat × Value)), Ck p s m args c cc nL ws y.cls D cs sa n2 ad2 A → post (ad2, u) → decode cc pc = .ok (.return_, 1) → G p l e rm s m args below meth c D n2 ad2 A nL mc ms Q u pc lv2 []) → G p l e rm s m args below meth c D n ad A nL 0 0 Q en 0 lv []) :
    Met l y ws rm (va_Pc av (WdA D cs sa n ad A en)) (va_Qv post (fun u => Wd D cs sa n2 u.1 A u.2) A) mc ms A := by
  refine Met.ofW (cc := cc) (maxL := nL) (ret := none) hy hw ?_
  intro p e s m args below meth c s₁ B hml hv
  obtain ⟨hav, ⟨hP, hK, hDj, hSx⟩, hA, hO⟩ := hv
  have hC : Ck p s m args c cc nL ws y.cls D cs sa n ad A := ⟨⟨B.exec, B.bytes, hml, findClass_of_methodNamed B.named, atoms_spec (ws := ws) B.pre⟩, hK, hDj, hSx⟩
  have hr := B.returns
  have hlk := B.notSynchronized
  exact G_of hav hlen hP lv hlv (body p e s m args below meth c _ hC (name_of_methodNamed B.named B.method).1 hA hO (fun ad2 u pc lv2 hC2 hq d => G_vretA hC2 hlk hr hq d))
end GA
theorem Hall.grow {cs : Nat → ClassId} {ad ad2 : Nat → Nat} {en u : Nat → va_E} {k : Nat} {v : HallV} (h : Hall cs ad en k v) (ha : ∀ j, k ≤ j → j < k + 11 → ad2 j = ad j) (hf : ∀ j, k ≤ j → j < k + 11 → u j = en j) : Hall cs ad2 u k v := by
  intro j hj
  rw [hf (k + j) (by omega) (by omega), h j hj]
  match j, hj with
  | 0, _ => simp only [hallE]; rw [ha (k + 1) (by omega) (by omega), ha (k + 3) (by omega) (by omega), ha (k + 5) (by omega) (by omega), ha (k + 7) (by omega) (by omega), ha (k + 9) (by omega) (by omega)]
  | 1, _ => simp only [hallE]; rw [ha (k + 2) (by omega) (by omega)]
  | 2, _ => rfl
  | 3, _ => simp only [hallE]; rw [ha (k + 4) (by omega) (by omega)]
  | 4, _ => rfl
  | 5, _ => simp only [hallE]; rw [ha (k + 6) (by omega) (by omega)]
  | 6, _ => rfl
  | 7, _ => simp only [hallE]; rw [ha (k + 8) (by omega) (by omega)]
  | 8, _ => rfl
  | 9, _ => simp only [hallE]; rw [ha (k + 10) (by omega) (by omega)]
  | 10, _ => rfl
def hall00 : HallV := (fun _ => 0, fun _ _ => 0, 0)
