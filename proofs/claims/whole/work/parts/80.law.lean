/-! THE CLAIM OUT OF ONE WALK OF THE LAW'S BODY. Your part is whole_start (and what it stands on); all else here is the same for every law, but numbers. -/
def R_law : String := "TongueTipLaw"
def lw_P (b : Addr) (xs : List Int32) (args : Array Value) (s : State) : Prop := args = #[.ref b] ∧ s.IntsAt b xs ∧ xs.length ≤ 4096 ∧ (Jvm.Cond.and given_1 narrow_1).before args s = true
def lw_Q (_ : Array Value) (s : State) (o : Outcome) (t : State) : Prop := o = .returned (some (.int 1)) ∧ Framed s o t [] 600000 7302250
def lw_Z (below : List Frame) (a : Array Value) (s : State) : State → Prop := fun t => ∃ o, t.status = .running ∧ Ended t below o ∧ lw_Q a s o t
/-- the law's own end, with 1 on the stack, nothing written that was there before, its room as the claim has it -/
theorem lw_ret {p : Program} {l : Launch} {e : Env} {s : State} {m : MethodId} {below : List Frame} {meth : Method} {c : Code} {b : Nat} (hx : p.tables.exec = Jvm.exec) (hb : c.code = code) (hr : meth.sig.returnType = ret) (hlocks : meth.locks = false) {pc : Nat} {H : Heap} {ls : Array Slot} (hdg : decode code pc = .ok (.ireturn, 1)) : W p l e room_1 s m #[Value.ref b] below meth c H [] 600000 7302250 (lw_Z below #[Value.ref b] s) (F0 m pc ls [.int 1]) := by
  intro T hT X
  obtain ⟨fs, hret, hrun, hended, hW, hframe⟩ := X.leave (v := some (.int 1)) (hlocks := hlocks) (fun h => by rw [hr] at h; cases h)
  have hmeth' : T.vm.method? m = some meth := X.method'
  refine ⟨T.setFrames fs, ?_, .returned (some (.int 1)), hrun, hended, rfl, ⟨_, rfl⟩, hW, hframe⟩
  jvm_step X.here [X.here.top, hx, hb, hdg, hmeth', hr, ret, narrow_b1]
  (try refine ⟨rfl, ?_⟩); (try refine ⟨rfl, ?_⟩)
  first | (intro acts; rw [hret _ acts rfl rfl rfl]) | rw [hret _ _ rfl rfl rfl]
  exact Steps.refl _
/-- what holds at the law's entry: the machine, the code, the tables' words (any of lw_tbl by 'hts w (by decide +kernel)'), the script of L ints xs at the cell b, what the Statement gives of the start (any of its parts by flat_of_before) -/
def lw_At (p : Program) (s : State) (m : MethodId) (meth : Method) (c : Code) (b L : Nat) (xs : Nat → Int32) : Prop :=
  p.tables.exec = Jvm.exec ∧ c.code = code ∧ meth.sig.returnType = ret ∧ c.maxLocals = 4 ∧ s.vm.findClass R_law = some m.cls ∧ (∀ w ∈ lw_tbl, w.before #[Value.ref b] s = true) ∧ va_X b L xs s s.heap ∧ b < s.heap.size ∧ meth.locks = false ∧ (Jvm.Cond.and given_1 narrow_1).before #[Value.ref b] s = true
def LFacts (cs : Nat → ClassId) (ad : Nat → Nat) (en : Nat → va_E) (keptImages : Int32) (fab : Int64) (fbe : Int64) (bads : Int32) (noes : Int32) (fulls : Int32) (now : HallV) (bl : Int32) (kp : Int32) (ring : Nat → HallV) (imgs : Nat → HallV) (tlen : Int32) (tby : Nat → Int32) (rkind : Int32) (rstart : Int32) (rbehind : Int32) (rname : Int64) (ritems : Int32) (rfault : Int32) (rrefused : Int32) (draft : HallV) (rnums : Nat → Int32) (rall : Nat → Int32) (rheld : Int32) (rsecs : Int32) (rhelp : Int32) (rna : Int32) (rout : Int32) (rmiss : Int64) (nmost : Nat → Int32) (nlearnt : Int32) (mw : Nat → Int32) (mnames : Nat → Int64) (mkept : Nat → Int32) (mtext : Nat → Int32) (mtexted : Int32) (mundo : Int32) (mabove : Int64) (mbelow : Int64) (mrefused : Nat → Int32) (miword : Nat → Int32) (miname : Nat → Int64) (mnumber : Nat → Int32) (mitems : Int32) (mat : Int32) (mfault : Int32) (mtakes : Int32) (mmisses : Int64) (mbest : Int64) (mleft : Nat → Int32) (mh : Int64) : Prop := en 0 = .inr (7, [.ref (ad 1), .ref (ad 12), .ref (ad 58), .ref (ad 81), .ref (ad 83), .ref (ad 96), .ref (ad 98), .int keptImages, .long fab, .long fbe, .int bads, .int noes, .int fulls]) ∧ en 12 = .inr (2, [.ref (ad 13), .int bl, .int kp]) ∧ en 81 = .inr (6, [.ref (ad 82), .int tlen]) ∧ en 83 = .inr (3, [.ref (ad 81), .ref (ad 84), .ref (ad 95), .int rkind, .int rstart, .int rbehind, .long rname, .int ritems, .int rfault, .int rrefused]) ∧ en 96 = .inr (4, [.ref (ad 97), .int rheld, .int rsecs, .int rhelp, .int rna, .int rout, .long rmiss]) ∧ en 98 = .inr (1, [.ref (ad 99), .int nlearnt]) ∧ en 100 = .inr (8, [.ref (ad 101), .ref (ad 102), .ref (ad 103), .ref (ad 104), .int mtexted, .int mundo, .long mabove, .long mbelow, .ref (ad 105), .ref (ad 106), .ref (ad 107), .ref (ad 108), .int mitems, .int mat, .int mfault, .int mtakes, .long mmisses, .long mbest, .ref (ad 109), .long mh]) ∧ en 82 = .inl (cs 0, 300, .inl (tby)) ∧ en 95 = .inl (cs 1, 5, .inl (rnums)) ∧ en 97 = .inl (cs 1, 326, .inl (rall)) ∧ en 99 = .inl (cs 1, 1300, .inl (nmost)) ∧ en 101 = .inl (cs 1, 960, .inl (mw)) ∧ en 102 = .inl (cs 2, 96, .inr (.inl (mnames))) ∧ en 103 = .inl (cs 3, 2, .inl (mkept)) ∧ en 104 = .inl (cs 1, 300, .inl (mtext)) ∧ en 105 = .inl (cs 1, 3, .inl (mrefused)) ∧ en 106 = .inl (cs 1, 60, .inl (miword)) ∧ en 107 = .inl (cs 2, 60, .inr (.inl (miname))) ∧ en 108 = .inl (cs 1, 300, .inl (mnumber)) ∧ en 109 = .inl (cs 1, 1300, .inl (mleft)) ∧ en 13 = .inl (cs 4, 4, .inr (.inr (.inr (.inr (ringF ad))))) ∧ en 58 = .inl (cs 4, 2, .inr (.inr (.inr (.inr (imgF ad))))) ∧ Hall cs ad en 1 now ∧ Hall cs ad en 84 draft ∧ (∀ i, i < 4 → Hall cs ad en (14 + 11 * i) (ring i)) ∧ (∀ i, i < 2 → Hall cs ad en (59 + 11 * i) (imgs i))
def LRel (keptImages : Int32) (fab : Int64) (fbe : Int64) (bads : Int32) (noes : Int32) (fulls : Int32) (now : HallV) (bl : Int32) (kp : Int32) (ring : Nat → HallV) (imgs : Nat → HallV) (tlen : Int32) (tby : Nat → Int32) (rkind : Int32) (rstart : Int32) (rbehind : Int32) (rname : Int64) (ritems : Int32) (rfault : Int32) (rrefused : Int32) (draft : HallV) (rnums : Nat → Int32) (rall : Nat → Int32) (rheld : Int32) (rsecs : Int32) (rhelp : Int32) (rna : Int32) (rout : Int32) (rmiss : Int64) (nmost : Nat → Int32) (nlearnt : Int32) (mw : Nat → Int32) (mnames : Nat → Int64) (mkept : Nat → Int32) (mtext : Nat → Int32) (mtexted : Int32) (mundo : Int32) (mabove : Int64) (mbelow : Int64) (mrefused : Nat → Int32) (miword : Nat → Int32) (miname : Nat → Int64) (mnumber : Nat → Int32) (mitems : Int32) (mat : Int32) (mfault : Int32) (mtakes : Int32) (mmisses : Int64) (mbest : Int64) (mleft : Nat → Int32) (mh : Int64) : Prop := Rel now bl kp ring imgs tlen tby draft rall nmost keptImages fab fbe bads noes fulls mw mnames mkept mtext mtexted mundo mabove mbelow mrefused
section GL
variable {p : Program} {l : Launch} {e : Env} {R : Room} {s : State} {m : MethodId} {args : Array Value} {below : List Frame} {meth : Method} {c : Code} {D : va_G} {cs : Nat → ClassId} {sa : Nat → Nat} {n : Nat} {ad : Nat → Nat} {A : Nat → Prop} {nL cells slots : Nat} {Q : State → Prop} {en : Nat → va_E} {cc : ByteArray} {Ts : List Cond} {own : String} {pc : Nat} {lv : List (Nat × Value)} {st : List Value}
theorem G_sld (hC : Ck p s m args c cc nL Ts own D cs sa n ad A) {b L : Nat} {xs : Nat → Int32} (hX : va_X b L xs s s.heap) (hbl : b < s.heap.size) (hbA : ¬ A b) {i : Int32} (hi : vp_in i L) (d : decode cc pc = .ok (.iaload, 1)) (k : G p l e R s m args below meth c D n ad A nL cells slots Q en (pc + 1) lv (.int (xs i.toNatClampNeg) :: st)) : G p l e R s m args below meth c D n ad A nL cells slots Q en pc lv (.int i :: .ref b :: st) := fun H locs ls hP hS hl => va_sld hC.1.1 hC.1.2.1 hX hbl hbA hS hi d (k H locs ls hP hS hl)
theorem G_slen2 (hC : Ck p s m args c cc nL Ts own D cs sa n ad A) {b L : Nat} {xs : Nat → Int32} (hX : va_X b L xs s s.heap) (hbl : b < s.heap.size) (hbA : ¬ A b) (d : decode cc pc = .ok (.arraylength, 1)) (k : G p l e R s m args below meth c D n ad A nL cells slots Q en (pc + 1) lv (.int (Int32.ofNat L) :: st)) : G p l e R s m args below meth c D n ad A nL cells slots Q en pc lv (.ref b :: st) := fun H locs ls hP hS hl => va_slen hC.1.1 hC.1.2.1 hX hbl hbA hS d (k H locs ls hP hS hl)
end GL
theorem vin {i L : Nat} {x3 : Int32} (hi : x3 = nI i) (h8 : i + 8 ≤ L) (hL : L ≤ 4096) (k : Nat) (hk : k < 8) : vp_in (x3 + Int32.ofNat k) L := by
  rw [hi]
  show vp_in (nI i + nI k) L
  rw [nI_add]
  exact vp_in_nI (by omega) (by omega)
theorem vin0 {i L : Nat} {x3 : Int32} (hi : x3 = nI i) (h8 : i + 8 ≤ L) (hL : L ≤ 4096) : vp_in x3 L := by
  rw [hi]
  exact vp_in_nI (by omega) (by omega)
theorem lcmp_ne {x y : Int64} (h : x = y) (c : ¬ lg_cmp x y = 0) : False := by
  subst h
  exact c (by simp [lg_cmp])
set_option maxHeartbeats 4000000 in
set_option maxRecDepth 100000 in
theorem lc_one {p : Program} {l : Launch} {e : Env} {s : State} {m : MethodId} {below : List Frame} {meth : Method} {c : Code} {D : va_G} {cs : Nat → ClassId} {sa : Nat → Nat} {ad : Nat → Nat} {b L : Nat} {xs : Nat → Int32} (hL : L ≤ 4096) (hX : va_X b L xs s s.heap) (hbl : b < s.heap.size) (hC : Ck p s m #[Value.ref b] c code 4 wsL_law RL D cs sa 110 ad (fun q => s.heap.size ≤ q)) {i : Nat} {x3 : Int32} (hi : x3 = nI i) (h8 : i + 8 ≤ L) {en1 : Nat → va_E} {keptImages : Int32} {fab : Int64} {fbe : Int64} {bads : Int32} {noes : Int32} {fulls : Int32} {now : HallV} {bl : Int32} {kp : Int32} {ring : Nat → HallV} {imgs : Nat → HallV} {tlen : Int32} {tby : Nat → Int32} {rkind : Int32} {rstart : Int32} {rbehind : Int32} {rname : Int64} {ritems : Int32} {rfault : Int32} {rrefused : Int32} {draft : HallV} {rnums : Nat → Int32} {rall : Nat → Int32} {rheld : Int32} {rsecs : Int32} {rhelp : Int32} {rna : Int32} {rout : Int32} {rmiss : Int64} {nmost : Nat → Int32} {nlearnt : Int32} {mw : Nat → Int32} {mnames : Nat → Int64} {mkept : Nat → Int32} {mtext : Nat → Int32} {mtexted : Int32} {mundo : Int32} {mabove : Int64} {mbelow : Int64} {mrefused : Nat → Int32} {miword : Nat → Int32} {miname : Nat → Int64} {mnumber : Nat → Int32} {mitems : Int32} {mat : Int32} {mfault : Int32} {mtakes : Int32} {mmisses : Int64} {mbest : Int64} {mleft : Nat → Int32} {mh : Int64} (hF : LFacts cs ad en1 keptImages fab fbe bads noes fulls now bl kp ring imgs tlen tby rkind rstart rbehind rname ritems rfault rrefused draft rnums rall rheld rsecs rhelp rna rout rmiss nmost nlearnt mw mnames mkept mtext mtexted mundo mabove mbelow mrefused miword miname mnumber mitems mat mfault mtakes mmisses mbest mleft mh) (hR : LRel keptImages fab fbe bads noes fulls now bl kp ring imgs tlen tby rkind rstart rbehind rname ritems rfault rrefused draft rnums rall rheld rsecs rhelp rna rout rmiss nmost nlearnt mw mnames mkept mtext mtexted mundo mabove mbelow mrefused miword miname mnumber mitems mat mfault mtakes mmisses mbest mleft mh) (K : ∀ (en2 : Nat → va_E) (keptImages : Int32) (fab : Int64) (fbe : Int64) (bads : Int32) (noes : Int32) (fulls : Int32) (now : HallV) (bl : Int32) (kp : Int32) (ring : Nat → HallV) (imgs : Nat → HallV) (tlen : Int32) (tby : Nat → Int32) (rkind : Int32) (rstart : Int32) (rbehind : Int32) (rname : Int64) (ritems : Int32) (rfault : Int32) (rrefused : Int32) (draft : HallV) (rnums : Nat → Int32) (rall : Nat → Int32) (rheld : Int32) (rsecs : Int32) (rhelp : Int32) (rna : Int32) (rout : Int32) (rmiss : Int64) (nmost : Nat → Int32) (nlearnt : Int32) (mw : Nat → Int32) (mnames : Nat → Int64) (mkept : Nat → Int32) (mtext : Nat → Int32) (mtexted : Int32) (mundo : Int32) (mabove : Int64) (mbelow : Int64) (mrefused : Nat → Int32) (miword : Nat → Int32) (miname : Nat → Int64) (mnumber : Nat → Int32) (mitems : Int32) (mat : Int32) (mfault : Int32) (mtakes : Int32) (mmisses : Int64) (mbest : Int64) (mleft : Nat → Int32) (mh : Int64), LFacts cs ad en2 keptImages fab fbe bads noes fulls now bl kp ring imgs tlen tby rkind rstart rbehind rname ritems rfault rrefused draft rnums rall rheld rsecs rhelp rna rout rmiss nmost nlearnt mw mnames mkept mtext mtexted mundo mabove mbelow mrefused miword miname mnumber mitems mat mfault mtakes mmisses mbest mleft mh → LRel keptImages fab fbe bads noes fulls now bl kp ring imgs tlen tby rkind rstart rbehind rname ritems rfault rrefused draft rnums rall rheld rsecs rhelp rna rout rmiss nmost nlearnt mw mnames mkept mtext mtexted mundo mabove mbelow mrefused miword miname mnumber mitems mat mfault mtakes mmisses mbest mleft mh → G p l e room_1 s m #[Value.ref b] below meth c D 110 ad (fun q => s.heap.size ≤ q) 4 110 6275 (lw_Z below #[Value.ref b] s) en2 1007 [(0, .ref b), (1, .ref (ad 0)), (2, .ref (ad 100)), (3, .int x3)] []) : G p l e room_1 s m #[Value.ref b] below meth c D 110 ad (fun q => s.heap.size ≤ q) 4 110 6275 (lw_Z below #[Value.ref b] s) en1 164 [(0, .ref b), (1, .ref (ad 0)), (2, .ref (ad 100)), (3, .int x3)] [] := by
  have hbA : ¬ (fun q => s.heap.size ≤ q) b := Nat.not_le.mpr hbl
  obtain ⟨e_tt, e_past, e_text, e_reader, e_rowso, e_night, e_model, e_tbytes, e_rnumarr, e_rallarr, e_nmostarr, e_mwarr, e_mnamesarr, e_mkeptarr, e_mtextarr, e_mrefusedarr, e_miwordarr, e_minamearr, e_mnumberarr, e_mleftarr, e_ringarr, e_imgarr, H_now, H_draft, F_ring, F_imgs⟩ := hF
  have k13 : Cond.constantLong RL 13 (4294967295) ∈ wsL_law := by decide +kernel
  obtain ⟨q212, q263, h212, h263, heq, hR2⟩ := r_one (bads := bads) (noes := noes) (fulls := fulls) (now := now) (mw := mw) (mnames := mnames) (mrefused := mrefused) hR ((((xs (x3 + (1 : Int32)).toNatClampNeg).toInt64) <<< ((32 : Int32).toInt64 &&& (63 : Int64))) ||| (((xs (x3 + (2 : Int32)).toNatClampNeg).toInt64) &&& (4294967295 : Int64))) (xs (x3 + (3 : Int32)).toNatClampNeg) (xs (x3 + (4 : Int32)).toNatClampNeg) (xs (x3 + (5 : Int32)).toNatClampNeg) (xs (x3 + (6 : Int32)).toNatClampNeg) (xs (x3 + (7 : Int32)).toNatClampNeg)
  refine G_aload_n hC 1 1 rfl rfl dL_law_164 ?_
  refine G_aload_n hC 0 0 rfl rfl dL_law_165 ?_
  refine G_iload_n hC 3 3 rfl rfl dL_law_166 ?_
  refine G_iconst hC (v := 1) (by decide) dL_law_167 ?_
  refine G_iadd hC dL_law_168 ?_
  refine G_sld hC hX hbl hbA (vin hi h8 hL 1 (by decide)) dL_law_169 ?_
  refine G_i2l hC dL_law_170 ?_
  refine G_bipush hC (v := 32) (by decide) dL_law_171 ?_
  refine G_lshl hC dL_law_173 ?_
  refine G_aload_n hC 0 0 rfl rfl dL_law_174 ?_
  refine G_iload_n hC 3 3 rfl rfl dL_law_175 ?_
  refine G_iconst hC (v := 2) (by decide) dL_law_176 ?_
  refine G_iadd hC dL_law_177 ?_
  refine G_sld hC hX hbl hbA (vin hi h8 hL 2 (by decide)) dL_law_178 ?_
  refine G_i2l hC dL_law_179 ?_
  refine G_ldc2 hC (v := (4294967295)) k13 dL_law_180 ?_
  refine G_land hC dL_law_183 ?_
  refine G_lor hC dL_law_184 ?_
  refine G_aload_n hC 0 0 rfl rfl dL_law_185 ?_
  refine G_iload_n hC 3 3 rfl rfl dL_law_186 ?_
  refine G_iconst hC (v := 3) (by decide) dL_law_187 ?_
  refine G_iadd hC dL_law_188 ?_
  refine G_sld hC hX hbl hbA (vin hi h8 hL 3 (by decide)) dL_law_189 ?_
  refine G_aload_n hC 0 0 rfl rfl dL_law_190 ?_
  refine G_iload_n hC 3 3 rfl rfl dL_law_191 ?_
  refine G_iconst hC (v := 4) (by decide) dL_law_192 ?_
  refine G_iadd hC dL_law_193 ?_
  refine G_sld hC hX hbl hbA (vin hi h8 hL 4 (by decide)) dL_law_194 ?_
  refine G_aload_n hC 0 0 rfl rfl dL_law_195 ?_
  refine G_iload_n hC 3 3 rfl rfl dL_law_196 ?_
  refine G_iconst hC (v := 5) (by decide) dL_law_197 ?_
  refine G_iadd hC dL_law_198 ?_
  refine G_sld hC hX hbl hbA (vin hi h8 hL 5 (by decide)) dL_law_199 ?_
  refine G_aload_n hC 0 0 rfl rfl dL_law_200 ?_
  refine G_iload_n hC 3 3 rfl rfl dL_law_201 ?_
  refine G_bipush hC (v := 6) (by decide) dL_law_202 ?_
  refine G_iadd hC dL_law_204 ?_
  refine G_sld hC hX hbl hbA (vin hi h8 hL 6 (by decide)) dL_law_205 ?_
  refine G_aload_n hC 0 0 rfl rfl dL_law_206 ?_
  refine G_iload_n hC 3 3 rfl rfl dL_law_207 ?_
  refine G_bipush hC (v := 7) (by decide) dL_law_208 ?_
  refine G_iadd hC dL_law_210 ?_
  refine G_sld hC hX hbl hbA (vin hi h8 hL 7 (by decide)) dL_law_211 ?_
  refine G_cVi (st := []) hC _ 0 (by omega) (c_X10_one  l (by omega) e_tt H_now h212) (cwV 6 hC.hts gL_law_X10_one rfl rfl rfl (by decide +kernel) ⟨Nat.le_of_ble_eq_true rfl, Nat.le_of_ble_eq_true rfl⟩) e_tt rfl rfl (Nat.le_of_ble_eq_true rfl) (Nat.le_of_ble_eq_true rfl) (Nat.le_of_ble_eq_true rfl) rfl dL_law_212 (fun r212 en2 hw => ?_)
  obtain ⟨rfl, e_tt, H_now, fr⟩ := hw
  have e_past := (fr 12 (by omega) (by omega)).trans e_past
  have e_text := (fr 81 (by omega) (by omega)).trans e_text
  have e_reader := (fr 83 (by omega) (by omega)).trans e_reader
  have e_rowso := (fr 96 (by omega) (by omega)).trans e_rowso
  have e_night := (fr 98 (by omega) (by omega)).trans e_night
  have e_model := (fr 100 (by omega) (by omega)).trans e_model
  have e_tbytes := (fr 82 (by omega) (by omega)).trans e_tbytes
  have e_rnumarr := (fr 95 (by omega) (by omega)).trans e_rnumarr
  have e_rallarr := (fr 97 (by omega) (by omega)).trans e_rallarr
  have e_nmostarr := (fr 99 (by omega) (by omega)).trans e_nmostarr
  have e_mwarr := (fr 101 (by omega) (by omega)).trans e_mwarr
  have e_mnamesarr := (fr 102 (by omega) (by omega)).trans e_mnamesarr
  have e_mkeptarr := (fr 103 (by omega) (by omega)).trans e_mkeptarr
  have e_mtextarr := (fr 104 (by omega) (by omega)).trans e_mtextarr
  have e_mrefusedarr := (fr 105 (by omega) (by omega)).trans e_mrefusedarr
  have e_miwordarr := (fr 106 (by omega) (by omega)).trans e_miwordarr
  have e_minamearr := (fr 107 (by omega) (by omega)).trans e_minamearr
  have e_mnumberarr := (fr 108 (by omega) (by omega)).trans e_mnumberarr
  have e_mleftarr := (fr 109 (by omega) (by omega)).trans e_mleftarr
  have e_ringarr := (fr 13 (by omega) (by omega)).trans e_ringarr
  have e_imgarr := (fr 58 (by omega) (by omega)).trans e_imgarr
  have H_draft := H_draft.fr (fun j h1 h2 => fr j (by omega) (by omega))
  have F_ring := fun i (hi : i < 4) => (F_ring i hi).fr (fun j h1 h2 => fr j (by omega) (by omega))
  have F_imgs := fun i (hi : i < 2) => (F_imgs i hi).fr (fun j h1 h2 => fr j (by omega) (by omega))
  refine G_aload_n hC 2 2 rfl rfl dL_law_215 ?_
  refine G_aload_n hC 0 0 rfl rfl dL_law_216 ?_
  refine G_iload_n hC 3 3 rfl rfl dL_law_217 ?_
  refine G_iconst hC (v := 1) (by decide) dL_law_218 ?_
  refine G_iadd hC dL_law_219 ?_
  refine G_sld hC hX hbl hbA (vin hi h8 hL 1 (by decide)) dL_law_220 ?_
  refine G_i2l hC dL_law_221 ?_
  refine G_bipush hC (v := 32) (by decide) dL_law_222 ?_
  refine G_lshl hC dL_law_224 ?_
  refine G_aload_n hC 0 0 rfl rfl dL_law_225 ?_
  refine G_iload_n hC 3 3 rfl rfl dL_law_226 ?_
  refine G_iconst hC (v := 2) (by decide) dL_law_227 ?_
  refine G_iadd hC dL_law_228 ?_
  refine G_sld hC hX hbl hbA (vin hi h8 hL 2 (by decide)) dL_law_229 ?_
  refine G_i2l hC dL_law_230 ?_
  refine G_ldc2 hC (v := (4294967295)) k13 dL_law_231 ?_
  refine G_land hC dL_law_234 ?_
  refine G_lor hC dL_law_235 ?_
  refine G_aload_n hC 0 0 rfl rfl dL_law_236 ?_
  refine G_iload_n hC 3 3 rfl rfl dL_law_237 ?_
  refine G_iconst hC (v := 3) (by decide) dL_law_238 ?_
  refine G_iadd hC dL_law_239 ?_
  refine G_sld hC hX hbl hbA (vin hi h8 hL 3 (by decide)) dL_law_240 ?_
  refine G_aload_n hC 0 0 rfl rfl dL_law_241 ?_
  refine G_iload_n hC 3 3 rfl rfl dL_law_242 ?_
  refine G_iconst hC (v := 4) (by decide) dL_law_243 ?_
  refine G_iadd hC dL_law_244 ?_
  refine G_sld hC hX hbl hbA (vin hi h8 hL 4 (by decide)) dL_law_245 ?_
  refine G_aload_n hC 0 0 rfl rfl dL_law_246 ?_
  refine G_iload_n hC 3 3 rfl rfl dL_law_247 ?_
  refine G_iconst hC (v := 5) (by decide) dL_law_248 ?_
  refine G_iadd hC dL_law_249 ?_
  refine G_sld hC hX hbl hbA (vin hi h8 hL 5 (by decide)) dL_law_250 ?_
  refine G_aload_n hC 0 0 rfl rfl dL_law_251 ?_
  refine G_iload_n hC 3 3 rfl rfl dL_law_252 ?_
  refine G_bipush hC (v := 6) (by decide) dL_law_253 ?_
  refine G_iadd hC dL_law_255 ?_
  refine G_sld hC hX hbl hbA (vin hi h8 hL 6 (by decide)) dL_law_256 ?_
  refine G_aload_n hC 0 0 rfl rfl dL_law_257 ?_
  refine G_iload_n hC 3 3 rfl rfl dL_law_258 ?_
  refine G_bipush hC (v := 7) (by decide) dL_law_259 ?_
  refine G_iadd hC dL_law_261 ?_
  refine G_sld hC hX hbl hbA (vin hi h8 hL 7 (by decide)) dL_law_262 ?_
  refine G_cVi (st := [.int q212.1]) hC _ 100 (by omega) (c_X11_one  l (by omega) e_model e_mwarr e_mnamesarr e_mrefusedarr h263) (cwV 6 hC.hts gL_law_X11_one rfl rfl rfl (by decide +kernel) ⟨Nat.le_of_ble_eq_true rfl, Nat.le_of_ble_eq_true rfl⟩) e_model rfl rfl (Nat.le_of_ble_eq_true rfl) (Nat.le_of_ble_eq_true rfl) (Nat.le_of_ble_eq_true rfl) rfl dL_law_263 (fun r263 en3 hw => ?_)
  obtain ⟨rfl, e_mwarr, e_mnamesarr, e_mrefusedarr, fr⟩ := hw
  have e_tt := (fr 0 (by omega) (by omega) (by omega)).trans e_tt
  have e_past := (fr 12 (by omega) (by omega) (by omega)).trans e_past
  have e_text := (fr 81 (by omega) (by omega) (by omega)).trans e_text
  have e_reader := (fr 83 (by omega) (by omega) (by omega)).trans e_reader
  have e_rowso := (fr 96 (by omega) (by omega) (by omega)).trans e_rowso
  have e_night := (fr 98 (by omega) (by omega) (by omega)).trans e_night
  have e_model := (fr 100 (by omega) (by omega) (by omega)).trans e_model
  have e_tbytes := (fr 82 (by omega) (by omega) (by omega)).trans e_tbytes
  have e_rnumarr := (fr 95 (by omega) (by omega) (by omega)).trans e_rnumarr
  have e_rallarr := (fr 97 (by omega) (by omega) (by omega)).trans e_rallarr
  have e_nmostarr := (fr 99 (by omega) (by omega) (by omega)).trans e_nmostarr
  have e_mkeptarr := (fr 103 (by omega) (by omega) (by omega)).trans e_mkeptarr
  have e_mtextarr := (fr 104 (by omega) (by omega) (by omega)).trans e_mtextarr
  have e_miwordarr := (fr 106 (by omega) (by omega) (by omega)).trans e_miwordarr
  have e_minamearr := (fr 107 (by omega) (by omega) (by omega)).trans e_minamearr
  have e_mnumberarr := (fr 108 (by omega) (by omega) (by omega)).trans e_mnumberarr
  have e_mleftarr := (fr 109 (by omega) (by omega) (by omega)).trans e_mleftarr
  have e_ringarr := (fr 13 (by omega) (by omega) (by omega)).trans e_ringarr
  have e_imgarr := (fr 58 (by omega) (by omega) (by omega)).trans e_imgarr
  have H_now := H_now.fr (fun j h1 h2 => fr j (by omega) (by omega) (by omega))
  have H_draft := H_draft.fr (fun j h1 h2 => fr j (by omega) (by omega) (by omega))
  have F_ring := fun i (hi : i < 4) => (F_ring i hi).fr (fun j h1 h2 => fr j (by omega) (by omega) (by omega))
  have F_imgs := fun i (hi : i < 2) => (F_imgs i hi).fr (fun j h1 h2 => fr j (by omega) (by omega) (by omega))
  refine G_icmp_eq hC 1007 dL_law_266 (by decide) (fun _ => ?_) (fun z => absurd heq z)
  exact K _ _ _ _ _ _ _ _ _ _ _ _ _ _ _ _ _ _ _ _ _ _ _ _ _ _ _ _ _ _ _ _ _ _ _ _ _ _ _ _ _ _ _ _ _ _ _ _ _ _ _ _ ⟨e_tt, e_past, e_text, e_reader, e_rowso, e_night, e_model, e_tbytes, e_rnumarr, e_rallarr, e_nmostarr, e_mwarr, e_mnamesarr, e_mkeptarr, e_mtextarr, e_mrefusedarr, e_miwordarr, e_minamearr, e_mnumberarr, e_mleftarr, e_ringarr, e_imgarr, H_now, H_draft, F_ring, F_imgs⟩ hR2
set_option maxHeartbeats 4000000 in
set_option maxRecDepth 100000 in
theorem lc_put {p : Program} {l : Launch} {e : Env} {s : State} {m : MethodId} {below : List Frame} {meth : Method} {c : Code} {D : va_G} {cs : Nat → ClassId} {sa : Nat → Nat} {ad : Nat → Nat} {b L : Nat} {xs : Nat → Int32} (hL : L ≤ 4096) (hX : va_X b L xs s s.heap) (hbl : b < s.heap.size) (hC : Ck p s m #[Value.ref b] c code 4 wsL_law RL D cs sa 110 ad (fun q => s.heap.size ≤ q)) {i : Nat} {x3 : Int32} (hi : x3 = nI i) (h8 : i + 8 ≤ L) {en1 : Nat → va_E} {keptImages : Int32} {fab : Int64} {fbe : Int64} {bads : Int32} {noes : Int32} {fulls : Int32} {now : HallV} {bl : Int32} {kp : Int32} {ring : Nat → HallV} {imgs : Nat → HallV} {tlen : Int32} {tby : Nat → Int32} {rkind : Int32} {rstart : Int32} {rbehind : Int32} {rname : Int64} {ritems : Int32} {rfault : Int32} {rrefused : Int32} {draft : HallV} {rnums : Nat → Int32} {rall : Nat → Int32} {rheld : Int32} {rsecs : Int32} {rhelp : Int32} {rna : Int32} {rout : Int32} {rmiss : Int64} {nmost : Nat → Int32} {nlearnt : Int32} {mw : Nat → Int32} {mnames : Nat → Int64} {mkept : Nat → Int32} {mtext : Nat → Int32} {mtexted : Int32} {mundo : Int32} {mabove : Int64} {mbelow : Int64} {mrefused : Nat → Int32} {miword : Nat → Int32} {miname : Nat → Int64} {mnumber : Nat → Int32} {mitems : Int32} {mat : Int32} {mfault : Int32} {mtakes : Int32} {mmisses : Int64} {mbest : Int64} {mleft : Nat → Int32} {mh : Int64} (hF : LFacts cs ad en1 keptImages fab fbe bads noes fulls now bl kp ring imgs tlen tby rkind rstart rbehind rname ritems rfault rrefused draft rnums rall rheld rsecs rhelp rna rout rmiss nmost nlearnt mw mnames mkept mtext mtexted mundo mabove mbelow mrefused miword miname mnumber mitems mat mfault mtakes mmisses mbest mleft mh) (hR : LRel keptImages fab fbe bads noes fulls now bl kp ring imgs tlen tby rkind rstart rbehind rname ritems rfault rrefused draft rnums rall rheld rsecs rhelp rna rout rmiss nmost nlearnt mw mnames mkept mtext mtexted mundo mabove mbelow mrefused miword miname mnumber mitems mat mfault mtakes mmisses mbest mleft mh) (K : ∀ (en2 : Nat → va_E) (keptImages : Int32) (fab : Int64) (fbe : Int64) (bads : Int32) (noes : Int32) (fulls : Int32) (now : HallV) (bl : Int32) (kp : Int32) (ring : Nat → HallV) (imgs : Nat → HallV) (tlen : Int32) (tby : Nat → Int32) (rkind : Int32) (rstart : Int32) (rbehind : Int32) (rname : Int64) (ritems : Int32) (rfault : Int32) (rrefused : Int32) (draft : HallV) (rnums : Nat → Int32) (rall : Nat → Int32) (rheld : Int32) (rsecs : Int32) (rhelp : Int32) (rna : Int32) (rout : Int32) (rmiss : Int64) (nmost : Nat → Int32) (nlearnt : Int32) (mw : Nat → Int32) (mnames : Nat → Int64) (mkept : Nat → Int32) (mtext : Nat → Int32) (mtexted : Int32) (mundo : Int32) (mabove : Int64) (mbelow : Int64) (mrefused : Nat → Int32) (miword : Nat → Int32) (miname : Nat → Int64) (mnumber : Nat → Int32) (mitems : Int32) (mat : Int32) (mfault : Int32) (mtakes : Int32) (mmisses : Int64) (mbest : Int64) (mleft : Nat → Int32) (mh : Int64), LFacts cs ad en2 keptImages fab fbe bads noes fulls now bl kp ring imgs tlen tby rkind rstart rbehind rname ritems rfault rrefused draft rnums rall rheld rsecs rhelp rna rout rmiss nmost nlearnt mw mnames mkept mtext mtexted mundo mabove mbelow mrefused miword miname mnumber mitems mat mfault mtakes mmisses mbest mleft mh → LRel keptImages fab fbe bads noes fulls now bl kp ring imgs tlen tby rkind rstart rbehind rname ritems rfault rrefused draft rnums rall rheld rsecs rhelp rna rout rmiss nmost nlearnt mw mnames mkept mtext mtexted mundo mabove mbelow mrefused miword miname mnumber mitems mat mfault mtakes mmisses mbest mleft mh → G p l e room_1 s m #[Value.ref b] below meth c D 110 ad (fun q => s.heap.size ≤ q) 4 110 6275 (lw_Z below #[Value.ref b] s) en2 1007 [(0, .ref b), (1, .ref (ad 0)), (2, .ref (ad 100)), (3, .int x3)] []) : G p l e room_1 s m #[Value.ref b] below meth c D 110 ad (fun q => s.heap.size ≤ q) 4 110 6275 (lw_Z below #[Value.ref b] s) en1 271 [(0, .ref b), (1, .ref (ad 0)), (2, .ref (ad 100)), (3, .int x3)] [] := by
  have hbA : ¬ (fun q => s.heap.size ≤ q) b := Nat.not_le.mpr hbl
  obtain ⟨e_tt, e_past, e_text, e_reader, e_rowso, e_night, e_model, e_tbytes, e_rnumarr, e_rallarr, e_nmostarr, e_mwarr, e_mnamesarr, e_mkeptarr, e_mtextarr, e_mrefusedarr, e_miwordarr, e_minamearr, e_mnumberarr, e_mleftarr, e_ringarr, e_imgarr, H_now, H_draft, F_ring, F_imgs⟩ := hF
  obtain ⟨q282, q296, h282, h296, heq, hR2⟩ := r_put (bads := bads) (noes := noes) (fulls := fulls) (now := now) (mw := mw) (mrefused := mrefused) hR (xs (x3 + (1 : Int32)).toNatClampNeg) (xs (x3 + (2 : Int32)).toNatClampNeg)
  refine G_aload_n hC 1 1 rfl rfl dL_law_271 ?_
  refine G_aload_n hC 0 0 rfl rfl dL_law_272 ?_
  refine G_iload_n hC 3 3 rfl rfl dL_law_273 ?_
  refine G_iconst hC (v := 1) (by decide) dL_law_274 ?_
  refine G_iadd hC dL_law_275 ?_
  refine G_sld hC hX hbl hbA (vin hi h8 hL 1 (by decide)) dL_law_276 ?_
  refine G_aload_n hC 0 0 rfl rfl dL_law_277 ?_
  refine G_iload_n hC 3 3 rfl rfl dL_law_278 ?_
  refine G_iconst hC (v := 2) (by decide) dL_law_279 ?_
  refine G_iadd hC dL_law_280 ?_
  refine G_sld hC hX hbl hbA (vin hi h8 hL 2 (by decide)) dL_law_281 ?_
  refine G_cVi (st := []) hC _ 0 (by omega) (c_X10_put  l (by omega) e_tt H_now h282) (cwV 2 hC.hts gL_law_X10_put rfl rfl rfl (by decide +kernel) ⟨Nat.le_of_ble_eq_true rfl, Nat.le_of_ble_eq_true rfl⟩) e_tt rfl rfl (Nat.le_of_ble_eq_true rfl) (Nat.le_of_ble_eq_true rfl) (Nat.le_of_ble_eq_true rfl) rfl dL_law_282 (fun r282 en2 hw => ?_)
  obtain ⟨rfl, e_tt, H_now, fr⟩ := hw
  have e_past := (fr 12 (by omega) (by omega)).trans e_past
  have e_text := (fr 81 (by omega) (by omega)).trans e_text
  have e_reader := (fr 83 (by omega) (by omega)).trans e_reader
  have e_rowso := (fr 96 (by omega) (by omega)).trans e_rowso
  have e_night := (fr 98 (by omega) (by omega)).trans e_night
  have e_model := (fr 100 (by omega) (by omega)).trans e_model
  have e_tbytes := (fr 82 (by omega) (by omega)).trans e_tbytes
  have e_rnumarr := (fr 95 (by omega) (by omega)).trans e_rnumarr
  have e_rallarr := (fr 97 (by omega) (by omega)).trans e_rallarr
  have e_nmostarr := (fr 99 (by omega) (by omega)).trans e_nmostarr
  have e_mwarr := (fr 101 (by omega) (by omega)).trans e_mwarr
  have e_mnamesarr := (fr 102 (by omega) (by omega)).trans e_mnamesarr
  have e_mkeptarr := (fr 103 (by omega) (by omega)).trans e_mkeptarr
  have e_mtextarr := (fr 104 (by omega) (by omega)).trans e_mtextarr
  have e_mrefusedarr := (fr 105 (by omega) (by omega)).trans e_mrefusedarr
  have e_miwordarr := (fr 106 (by omega) (by omega)).trans e_miwordarr
  have e_minamearr := (fr 107 (by omega) (by omega)).trans e_minamearr
  have e_mnumberarr := (fr 108 (by omega) (by omega)).trans e_mnumberarr
  have e_mleftarr := (fr 109 (by omega) (by omega)).trans e_mleftarr
  have e_ringarr := (fr 13 (by omega) (by omega)).trans e_ringarr
  have e_imgarr := (fr 58 (by omega) (by omega)).trans e_imgarr
  have H_draft := H_draft.fr (fun j h1 h2 => fr j (by omega) (by omega))
  have F_ring := fun i (hi : i < 4) => (F_ring i hi).fr (fun j h1 h2 => fr j (by omega) (by omega))
  have F_imgs := fun i (hi : i < 2) => (F_imgs i hi).fr (fun j h1 h2 => fr j (by omega) (by omega))
  refine G_aload_n hC 2 2 rfl rfl dL_law_285 ?_
  refine G_aload_n hC 0 0 rfl rfl dL_law_286 ?_
  refine G_iload_n hC 3 3 rfl rfl dL_law_287 ?_
  refine G_iconst hC (v := 1) (by decide) dL_law_288 ?_
  refine G_iadd hC dL_law_289 ?_
  refine G_sld hC hX hbl hbA (vin hi h8 hL 1 (by decide)) dL_law_290 ?_
  refine G_aload_n hC 0 0 rfl rfl dL_law_291 ?_
  refine G_iload_n hC 3 3 rfl rfl dL_law_292 ?_
  refine G_iconst hC (v := 2) (by decide) dL_law_293 ?_
  refine G_iadd hC dL_law_294 ?_
  refine G_sld hC hX hbl hbA (vin hi h8 hL 2 (by decide)) dL_law_295 ?_
  refine G_cVi (st := [.int q282.1]) hC _ 100 (by omega) (c_X11_put  l (by omega) e_model e_mwarr e_mrefusedarr h296) (cwV 2 hC.hts gL_law_X11_put rfl rfl rfl (by decide +kernel) ⟨Nat.le_of_ble_eq_true rfl, Nat.le_of_ble_eq_true rfl⟩) e_model rfl rfl (Nat.le_of_ble_eq_true rfl) (Nat.le_of_ble_eq_true rfl) (Nat.le_of_ble_eq_true rfl) rfl dL_law_296 (fun r296 en3 hw => ?_)
  obtain ⟨rfl, e_mwarr, e_mrefusedarr, fr⟩ := hw
  have e_tt := (fr 0 (by omega) (by omega)).trans e_tt
  have e_past := (fr 12 (by omega) (by omega)).trans e_past
  have e_text := (fr 81 (by omega) (by omega)).trans e_text
  have e_reader := (fr 83 (by omega) (by omega)).trans e_reader
  have e_rowso := (fr 96 (by omega) (by omega)).trans e_rowso
  have e_night := (fr 98 (by omega) (by omega)).trans e_night
  have e_model := (fr 100 (by omega) (by omega)).trans e_model
  have e_tbytes := (fr 82 (by omega) (by omega)).trans e_tbytes
  have e_rnumarr := (fr 95 (by omega) (by omega)).trans e_rnumarr
  have e_rallarr := (fr 97 (by omega) (by omega)).trans e_rallarr
  have e_nmostarr := (fr 99 (by omega) (by omega)).trans e_nmostarr
  have e_mnamesarr := (fr 102 (by omega) (by omega)).trans e_mnamesarr
  have e_mkeptarr := (fr 103 (by omega) (by omega)).trans e_mkeptarr
  have e_mtextarr := (fr 104 (by omega) (by omega)).trans e_mtextarr
  have e_miwordarr := (fr 106 (by omega) (by omega)).trans e_miwordarr
  have e_minamearr := (fr 107 (by omega) (by omega)).trans e_minamearr
  have e_mnumberarr := (fr 108 (by omega) (by omega)).trans e_mnumberarr
  have e_mleftarr := (fr 109 (by omega) (by omega)).trans e_mleftarr
  have e_ringarr := (fr 13 (by omega) (by omega)).trans e_ringarr
  have e_imgarr := (fr 58 (by omega) (by omega)).trans e_imgarr
  have H_now := H_now.fr (fun j h1 h2 => fr j (by omega) (by omega))
  have H_draft := H_draft.fr (fun j h1 h2 => fr j (by omega) (by omega))
  have F_ring := fun i (hi : i < 4) => (F_ring i hi).fr (fun j h1 h2 => fr j (by omega) (by omega))
  have F_imgs := fun i (hi : i < 2) => (F_imgs i hi).fr (fun j h1 h2 => fr j (by omega) (by omega))
  refine G_icmp_eq hC 1007 dL_law_299 (by decide) (fun _ => ?_) (fun z => absurd heq z)
  exact K _ _ _ _ _ _ _ _ _ _ _ _ _ _ _ _ _ _ _ _ _ _ _ _ _ _ _ _ _ _ _ _ _ _ _ _ _ _ _ _ _ _ _ _ _ _ _ _ _ _ _ _ ⟨e_tt, e_past, e_text, e_reader, e_rowso, e_night, e_model, e_tbytes, e_rnumarr, e_rallarr, e_nmostarr, e_mwarr, e_mnamesarr, e_mkeptarr, e_mtextarr, e_mrefusedarr, e_miwordarr, e_minamearr, e_mnumberarr, e_mleftarr, e_ringarr, e_imgarr, H_now, H_draft, F_ring, F_imgs⟩ hR2
set_option maxHeartbeats 4000000 in
set_option maxRecDepth 100000 in
theorem lc_addTry {p : Program} {l : Launch} {e : Env} {s : State} {m : MethodId} {below : List Frame} {meth : Method} {c : Code} {D : va_G} {cs : Nat → ClassId} {sa : Nat → Nat} {ad : Nat → Nat} {b L : Nat} {xs : Nat → Int32} (hL : L ≤ 4096) (hX : va_X b L xs s s.heap) (hbl : b < s.heap.size) (hC : Ck p s m #[Value.ref b] c code 4 wsL_law RL D cs sa 110 ad (fun q => s.heap.size ≤ q)) {i : Nat} {x3 : Int32} (hi : x3 = nI i) (h8 : i + 8 ≤ L) {en1 : Nat → va_E} {keptImages : Int32} {fab : Int64} {fbe : Int64} {bads : Int32} {noes : Int32} {fulls : Int32} {now : HallV} {bl : Int32} {kp : Int32} {ring : Nat → HallV} {imgs : Nat → HallV} {tlen : Int32} {tby : Nat → Int32} {rkind : Int32} {rstart : Int32} {rbehind : Int32} {rname : Int64} {ritems : Int32} {rfault : Int32} {rrefused : Int32} {draft : HallV} {rnums : Nat → Int32} {rall : Nat → Int32} {rheld : Int32} {rsecs : Int32} {rhelp : Int32} {rna : Int32} {rout : Int32} {rmiss : Int64} {nmost : Nat → Int32} {nlearnt : Int32} {mw : Nat → Int32} {mnames : Nat → Int64} {mkept : Nat → Int32} {mtext : Nat → Int32} {mtexted : Int32} {mundo : Int32} {mabove : Int64} {mbelow : Int64} {mrefused : Nat → Int32} {miword : Nat → Int32} {miname : Nat → Int64} {mnumber : Nat → Int32} {mitems : Int32} {mat : Int32} {mfault : Int32} {mtakes : Int32} {mmisses : Int64} {mbest : Int64} {mleft : Nat → Int32} {mh : Int64} (hF : LFacts cs ad en1 keptImages fab fbe bads noes fulls now bl kp ring imgs tlen tby rkind rstart rbehind rname ritems rfault rrefused draft rnums rall rheld rsecs rhelp rna rout rmiss nmost nlearnt mw mnames mkept mtext mtexted mundo mabove mbelow mrefused miword miname mnumber mitems mat mfault mtakes mmisses mbest mleft mh) (hR : LRel keptImages fab fbe bads noes fulls now bl kp ring imgs tlen tby rkind rstart rbehind rname ritems rfault rrefused draft rnums rall rheld rsecs rhelp rna rout rmiss nmost nlearnt mw mnames mkept mtext mtexted mundo mabove mbelow mrefused miword miname mnumber mitems mat mfault mtakes mmisses mbest mleft mh) (K : ∀ (en2 : Nat → va_E) (keptImages : Int32) (fab : Int64) (fbe : Int64) (bads : Int32) (noes : Int32) (fulls : Int32) (now : HallV) (bl : Int32) (kp : Int32) (ring : Nat → HallV) (imgs : Nat → HallV) (tlen : Int32) (tby : Nat → Int32) (rkind : Int32) (rstart : Int32) (rbehind : Int32) (rname : Int64) (ritems : Int32) (rfault : Int32) (rrefused : Int32) (draft : HallV) (rnums : Nat → Int32) (rall : Nat → Int32) (rheld : Int32) (rsecs : Int32) (rhelp : Int32) (rna : Int32) (rout : Int32) (rmiss : Int64) (nmost : Nat → Int32) (nlearnt : Int32) (mw : Nat → Int32) (mnames : Nat → Int64) (mkept : Nat → Int32) (mtext : Nat → Int32) (mtexted : Int32) (mundo : Int32) (mabove : Int64) (mbelow : Int64) (mrefused : Nat → Int32) (miword : Nat → Int32) (miname : Nat → Int64) (mnumber : Nat → Int32) (mitems : Int32) (mat : Int32) (mfault : Int32) (mtakes : Int32) (mmisses : Int64) (mbest : Int64) (mleft : Nat → Int32) (mh : Int64), LFacts cs ad en2 keptImages fab fbe bads noes fulls now bl kp ring imgs tlen tby rkind rstart rbehind rname ritems rfault rrefused draft rnums rall rheld rsecs rhelp rna rout rmiss nmost nlearnt mw mnames mkept mtext mtexted mundo mabove mbelow mrefused miword miname mnumber mitems mat mfault mtakes mmisses mbest mleft mh → LRel keptImages fab fbe bads noes fulls now bl kp ring imgs tlen tby rkind rstart rbehind rname ritems rfault rrefused draft rnums rall rheld rsecs rhelp rna rout rmiss nmost nlearnt mw mnames mkept mtext mtexted mundo mabove mbelow mrefused miword miname mnumber mitems mat mfault mtakes mmisses mbest mleft mh → G p l e room_1 s m #[Value.ref b] below meth c D 110 ad (fun q => s.heap.size ≤ q) 4 110 6275 (lw_Z below #[Value.ref b] s) en2 1007 [(0, .ref b), (1, .ref (ad 0)), (2, .ref (ad 100)), (3, .int x3)] []) : G p l e room_1 s m #[Value.ref b] below meth c D 110 ad (fun q => s.heap.size ≤ q) 4 110 6275 (lw_Z below #[Value.ref b] s) en1 304 [(0, .ref b), (1, .ref (ad 0)), (2, .ref (ad 100)), (3, .int x3)] [] := by
  have hbA : ¬ (fun q => s.heap.size ≤ q) b := Nat.not_le.mpr hbl
  obtain ⟨e_tt, e_past, e_text, e_reader, e_rowso, e_night, e_model, e_tbytes, e_rnumarr, e_rallarr, e_nmostarr, e_mwarr, e_mnamesarr, e_mkeptarr, e_mtextarr, e_mrefusedarr, e_miwordarr, e_minamearr, e_mnumberarr, e_mleftarr, e_ringarr, e_imgarr, H_now, H_draft, F_ring, F_imgs⟩ := hF
  obtain ⟨q320, q339, h320, h339, heq, hR2⟩ := r_addTry (bads := bads) (noes := noes) (fulls := fulls) (now := now) (mw := mw) (mrefused := mrefused) hR (xs (x3 + (1 : Int32)).toNatClampNeg) (xs (x3 + (2 : Int32)).toNatClampNeg) (xs (x3 + (3 : Int32)).toNatClampNeg)
  refine G_aload_n hC 1 1 rfl rfl dL_law_304 ?_
  refine G_aload_n hC 0 0 rfl rfl dL_law_305 ?_
  refine G_iload_n hC 3 3 rfl rfl dL_law_306 ?_
  refine G_iconst hC (v := 1) (by decide) dL_law_307 ?_
  refine G_iadd hC dL_law_308 ?_
  refine G_sld hC hX hbl hbA (vin hi h8 hL 1 (by decide)) dL_law_309 ?_
  refine G_aload_n hC 0 0 rfl rfl dL_law_310 ?_
  refine G_iload_n hC 3 3 rfl rfl dL_law_311 ?_
  refine G_iconst hC (v := 2) (by decide) dL_law_312 ?_
  refine G_iadd hC dL_law_313 ?_
  refine G_sld hC hX hbl hbA (vin hi h8 hL 2 (by decide)) dL_law_314 ?_
  refine G_aload_n hC 0 0 rfl rfl dL_law_315 ?_
  refine G_iload_n hC 3 3 rfl rfl dL_law_316 ?_
  refine G_iconst hC (v := 3) (by decide) dL_law_317 ?_
  refine G_iadd hC dL_law_318 ?_
  refine G_sld hC hX hbl hbA (vin hi h8 hL 3 (by decide)) dL_law_319 ?_
  refine G_cVi (st := []) hC _ 0 (by omega) (c_X10_addTry  l (by omega) e_tt H_now h320) (cwV 3 hC.hts gL_law_X10_addTry rfl rfl rfl (by decide +kernel) ⟨Nat.le_of_ble_eq_true rfl, Nat.le_of_ble_eq_true rfl⟩) e_tt rfl rfl (Nat.le_of_ble_eq_true rfl) (Nat.le_of_ble_eq_true rfl) (Nat.le_of_ble_eq_true rfl) rfl dL_law_320 (fun r320 en2 hw => ?_)
  obtain ⟨rfl, e_tt, H_now, fr⟩ := hw
  have e_past := (fr 12 (by omega) (by omega)).trans e_past
  have e_text := (fr 81 (by omega) (by omega)).trans e_text
  have e_reader := (fr 83 (by omega) (by omega)).trans e_reader
  have e_rowso := (fr 96 (by omega) (by omega)).trans e_rowso
  have e_night := (fr 98 (by omega) (by omega)).trans e_night
  have e_model := (fr 100 (by omega) (by omega)).trans e_model
  have e_tbytes := (fr 82 (by omega) (by omega)).trans e_tbytes
  have e_rnumarr := (fr 95 (by omega) (by omega)).trans e_rnumarr
  have e_rallarr := (fr 97 (by omega) (by omega)).trans e_rallarr
  have e_nmostarr := (fr 99 (by omega) (by omega)).trans e_nmostarr
  have e_mwarr := (fr 101 (by omega) (by omega)).trans e_mwarr
  have e_mnamesarr := (fr 102 (by omega) (by omega)).trans e_mnamesarr
  have e_mkeptarr := (fr 103 (by omega) (by omega)).trans e_mkeptarr
  have e_mtextarr := (fr 104 (by omega) (by omega)).trans e_mtextarr
  have e_mrefusedarr := (fr 105 (by omega) (by omega)).trans e_mrefusedarr
  have e_miwordarr := (fr 106 (by omega) (by omega)).trans e_miwordarr
  have e_minamearr := (fr 107 (by omega) (by omega)).trans e_minamearr
  have e_mnumberarr := (fr 108 (by omega) (by omega)).trans e_mnumberarr
  have e_mleftarr := (fr 109 (by omega) (by omega)).trans e_mleftarr
  have e_ringarr := (fr 13 (by omega) (by omega)).trans e_ringarr
  have e_imgarr := (fr 58 (by omega) (by omega)).trans e_imgarr
  have H_draft := H_draft.fr (fun j h1 h2 => fr j (by omega) (by omega))
  have F_ring := fun i (hi : i < 4) => (F_ring i hi).fr (fun j h1 h2 => fr j (by omega) (by omega))
  have F_imgs := fun i (hi : i < 2) => (F_imgs i hi).fr (fun j h1 h2 => fr j (by omega) (by omega))
  refine G_aload_n hC 2 2 rfl rfl dL_law_323 ?_
  refine G_aload_n hC 0 0 rfl rfl dL_law_324 ?_
  refine G_iload_n hC 3 3 rfl rfl dL_law_325 ?_
  refine G_iconst hC (v := 1) (by decide) dL_law_326 ?_
  refine G_iadd hC dL_law_327 ?_
  refine G_sld hC hX hbl hbA (vin hi h8 hL 1 (by decide)) dL_law_328 ?_
  refine G_aload_n hC 0 0 rfl rfl dL_law_329 ?_
  refine G_iload_n hC 3 3 rfl rfl dL_law_330 ?_
  refine G_iconst hC (v := 2) (by decide) dL_law_331 ?_
  refine G_iadd hC dL_law_332 ?_
  refine G_sld hC hX hbl hbA (vin hi h8 hL 2 (by decide)) dL_law_333 ?_
  refine G_aload_n hC 0 0 rfl rfl dL_law_334 ?_
  refine G_iload_n hC 3 3 rfl rfl dL_law_335 ?_
  refine G_iconst hC (v := 3) (by decide) dL_law_336 ?_
  refine G_iadd hC dL_law_337 ?_
  refine G_sld hC hX hbl hbA (vin hi h8 hL 3 (by decide)) dL_law_338 ?_
  refine G_cVi (st := [.int q320.1]) hC _ 100 (by omega) (c_X11_addTry  l (by omega) e_model e_mwarr e_mrefusedarr h339) (cwV 3 hC.hts gL_law_X11_addTry rfl rfl rfl (by decide +kernel) ⟨Nat.le_of_ble_eq_true rfl, Nat.le_of_ble_eq_true rfl⟩) e_model rfl rfl (Nat.le_of_ble_eq_true rfl) (Nat.le_of_ble_eq_true rfl) (Nat.le_of_ble_eq_true rfl) rfl dL_law_339 (fun r339 en3 hw => ?_)
  obtain ⟨rfl, e_mwarr, e_mrefusedarr, fr⟩ := hw
  have e_tt := (fr 0 (by omega) (by omega)).trans e_tt
  have e_past := (fr 12 (by omega) (by omega)).trans e_past
  have e_text := (fr 81 (by omega) (by omega)).trans e_text
  have e_reader := (fr 83 (by omega) (by omega)).trans e_reader
  have e_rowso := (fr 96 (by omega) (by omega)).trans e_rowso
  have e_night := (fr 98 (by omega) (by omega)).trans e_night
  have e_model := (fr 100 (by omega) (by omega)).trans e_model
  have e_tbytes := (fr 82 (by omega) (by omega)).trans e_tbytes
  have e_rnumarr := (fr 95 (by omega) (by omega)).trans e_rnumarr
  have e_rallarr := (fr 97 (by omega) (by omega)).trans e_rallarr
  have e_nmostarr := (fr 99 (by omega) (by omega)).trans e_nmostarr
  have e_mnamesarr := (fr 102 (by omega) (by omega)).trans e_mnamesarr
  have e_mkeptarr := (fr 103 (by omega) (by omega)).trans e_mkeptarr
  have e_mtextarr := (fr 104 (by omega) (by omega)).trans e_mtextarr
  have e_miwordarr := (fr 106 (by omega) (by omega)).trans e_miwordarr
  have e_minamearr := (fr 107 (by omega) (by omega)).trans e_minamearr
  have e_mnumberarr := (fr 108 (by omega) (by omega)).trans e_mnumberarr
  have e_mleftarr := (fr 109 (by omega) (by omega)).trans e_mleftarr
  have e_ringarr := (fr 13 (by omega) (by omega)).trans e_ringarr
  have e_imgarr := (fr 58 (by omega) (by omega)).trans e_imgarr
  have H_now := H_now.fr (fun j h1 h2 => fr j (by omega) (by omega))
  have H_draft := H_draft.fr (fun j h1 h2 => fr j (by omega) (by omega))
  have F_ring := fun i (hi : i < 4) => (F_ring i hi).fr (fun j h1 h2 => fr j (by omega) (by omega))
  have F_imgs := fun i (hi : i < 2) => (F_imgs i hi).fr (fun j h1 h2 => fr j (by omega) (by omega))
  refine G_icmp_eq hC 1007 dL_law_342 (by decide) (fun _ => ?_) (fun z => absurd heq z)
  exact K _ _ _ _ _ _ _ _ _ _ _ _ _ _ _ _ _ _ _ _ _ _ _ _ _ _ _ _ _ _ _ _ _ _ _ _ _ _ _ _ _ _ _ _ _ _ _ _ _ _ _ _ ⟨e_tt, e_past, e_text, e_reader, e_rowso, e_night, e_model, e_tbytes, e_rnumarr, e_rallarr, e_nmostarr, e_mwarr, e_mnamesarr, e_mkeptarr, e_mtextarr, e_mrefusedarr, e_miwordarr, e_minamearr, e_mnumberarr, e_mleftarr, e_ringarr, e_imgarr, H_now, H_draft, F_ring, F_imgs⟩ hR2
set_option maxHeartbeats 4000000 in
set_option maxRecDepth 100000 in
theorem lc_held {p : Program} {l : Launch} {e : Env} {s : State} {m : MethodId} {below : List Frame} {meth : Method} {c : Code} {D : va_G} {cs : Nat → ClassId} {sa : Nat → Nat} {ad : Nat → Nat} {b L : Nat} {xs : Nat → Int32} (hL : L ≤ 4096) (hX : va_X b L xs s s.heap) (hbl : b < s.heap.size) (hC : Ck p s m #[Value.ref b] c code 4 wsL_law RL D cs sa 110 ad (fun q => s.heap.size ≤ q)) {i : Nat} {x3 : Int32} (hi : x3 = nI i) (h8 : i + 8 ≤ L) {en1 : Nat → va_E} {keptImages : Int32} {fab : Int64} {fbe : Int64} {bads : Int32} {noes : Int32} {fulls : Int32} {now : HallV} {bl : Int32} {kp : Int32} {ring : Nat → HallV} {imgs : Nat → HallV} {tlen : Int32} {tby : Nat → Int32} {rkind : Int32} {rstart : Int32} {rbehind : Int32} {rname : Int64} {ritems : Int32} {rfault : Int32} {rrefused : Int32} {draft : HallV} {rnums : Nat → Int32} {rall : Nat → Int32} {rheld : Int32} {rsecs : Int32} {rhelp : Int32} {rna : Int32} {rout : Int32} {rmiss : Int64} {nmost : Nat → Int32} {nlearnt : Int32} {mw : Nat → Int32} {mnames : Nat → Int64} {mkept : Nat → Int32} {mtext : Nat → Int32} {mtexted : Int32} {mundo : Int32} {mabove : Int64} {mbelow : Int64} {mrefused : Nat → Int32} {miword : Nat → Int32} {miname : Nat → Int64} {mnumber : Nat → Int32} {mitems : Int32} {mat : Int32} {mfault : Int32} {mtakes : Int32} {mmisses : Int64} {mbest : Int64} {mleft : Nat → Int32} {mh : Int64} (hF : LFacts cs ad en1 keptImages fab fbe bads noes fulls now bl kp ring imgs tlen tby rkind rstart rbehind rname ritems rfault rrefused draft rnums rall rheld rsecs rhelp rna rout rmiss nmost nlearnt mw mnames mkept mtext mtexted mundo mabove mbelow mrefused miword miname mnumber mitems mat mfault mtakes mmisses mbest mleft mh) (hR : LRel keptImages fab fbe bads noes fulls now bl kp ring imgs tlen tby rkind rstart rbehind rname ritems rfault rrefused draft rnums rall rheld rsecs rhelp rna rout rmiss nmost nlearnt mw mnames mkept mtext mtexted mundo mabove mbelow mrefused miword miname mnumber mitems mat mfault mtakes mmisses mbest mleft mh) (K : ∀ (en2 : Nat → va_E) (keptImages : Int32) (fab : Int64) (fbe : Int64) (bads : Int32) (noes : Int32) (fulls : Int32) (now : HallV) (bl : Int32) (kp : Int32) (ring : Nat → HallV) (imgs : Nat → HallV) (tlen : Int32) (tby : Nat → Int32) (rkind : Int32) (rstart : Int32) (rbehind : Int32) (rname : Int64) (ritems : Int32) (rfault : Int32) (rrefused : Int32) (draft : HallV) (rnums : Nat → Int32) (rall : Nat → Int32) (rheld : Int32) (rsecs : Int32) (rhelp : Int32) (rna : Int32) (rout : Int32) (rmiss : Int64) (nmost : Nat → Int32) (nlearnt : Int32) (mw : Nat → Int32) (mnames : Nat → Int64) (mkept : Nat → Int32) (mtext : Nat → Int32) (mtexted : Int32) (mundo : Int32) (mabove : Int64) (mbelow : Int64) (mrefused : Nat → Int32) (miword : Nat → Int32) (miname : Nat → Int64) (mnumber : Nat → Int32) (mitems : Int32) (mat : Int32) (mfault : Int32) (mtakes : Int32) (mmisses : Int64) (mbest : Int64) (mleft : Nat → Int32) (mh : Int64), LFacts cs ad en2 keptImages fab fbe bads noes fulls now bl kp ring imgs tlen tby rkind rstart rbehind rname ritems rfault rrefused draft rnums rall rheld rsecs rhelp rna rout rmiss nmost nlearnt mw mnames mkept mtext mtexted mundo mabove mbelow mrefused miword miname mnumber mitems mat mfault mtakes mmisses mbest mleft mh → LRel keptImages fab fbe bads noes fulls now bl kp ring imgs tlen tby rkind rstart rbehind rname ritems rfault rrefused draft rnums rall rheld rsecs rhelp rna rout rmiss nmost nlearnt mw mnames mkept mtext mtexted mundo mabove mbelow mrefused miword miname mnumber mitems mat mfault mtakes mmisses mbest mleft mh → G p l e room_1 s m #[Value.ref b] below meth c D 110 ad (fun q => s.heap.size ≤ q) 4 110 6275 (lw_Z below #[Value.ref b] s) en2 1007 [(0, .ref b), (1, .ref (ad 0)), (2, .ref (ad 100)), (3, .int x3)] []) : G p l e room_1 s m #[Value.ref b] below meth c D 110 ad (fun q => s.heap.size ≤ q) 4 110 6275 (lw_Z below #[Value.ref b] s) en1 347 [(0, .ref b), (1, .ref (ad 0)), (2, .ref (ad 100)), (3, .int x3)] [] := by
  have hbA : ¬ (fun q => s.heap.size ≤ q) b := Nat.not_le.mpr hbl
  obtain ⟨e_tt, e_past, e_text, e_reader, e_rowso, e_night, e_model, e_tbytes, e_rnumarr, e_rallarr, e_nmostarr, e_mwarr, e_mnamesarr, e_mkeptarr, e_mtextarr, e_mrefusedarr, e_miwordarr, e_minamearr, e_mnumberarr, e_mleftarr, e_ringarr, e_imgarr, H_now, H_draft, F_ring, F_imgs⟩ := hF
  obtain ⟨q358, q372, h358, h372, heq, hR2⟩ := r_held (bads := bads) (noes := noes) (fulls := fulls) (now := now) (mw := mw) (mrefused := mrefused) hR (xs (x3 + (1 : Int32)).toNatClampNeg) (xs (x3 + (2 : Int32)).toNatClampNeg)
  refine G_aload_n hC 1 1 rfl rfl dL_law_347 ?_
  refine G_aload_n hC 0 0 rfl rfl dL_law_348 ?_
  refine G_iload_n hC 3 3 rfl rfl dL_law_349 ?_
  refine G_iconst hC (v := 1) (by decide) dL_law_350 ?_
  refine G_iadd hC dL_law_351 ?_
  refine G_sld hC hX hbl hbA (vin hi h8 hL 1 (by decide)) dL_law_352 ?_
  refine G_aload_n hC 0 0 rfl rfl dL_law_353 ?_
  refine G_iload_n hC 3 3 rfl rfl dL_law_354 ?_
  refine G_iconst hC (v := 2) (by decide) dL_law_355 ?_
  refine G_iadd hC dL_law_356 ?_
  refine G_sld hC hX hbl hbA (vin hi h8 hL 2 (by decide)) dL_law_357 ?_
  refine G_cVi (st := []) hC _ 0 (by omega) (c_X10_held  l (by omega) e_tt H_now h358) (cwV 2 hC.hts gL_law_X10_held rfl rfl rfl (by decide +kernel) ⟨Nat.le_of_ble_eq_true rfl, Nat.le_of_ble_eq_true rfl⟩) e_tt rfl rfl (Nat.le_of_ble_eq_true rfl) (Nat.le_of_ble_eq_true rfl) (Nat.le_of_ble_eq_true rfl) rfl dL_law_358 (fun r358 en2 hw => ?_)
  obtain ⟨rfl, e_tt, fr⟩ := hw
  have e_past := (fr 12 (by omega)).trans e_past
  have e_text := (fr 81 (by omega)).trans e_text
  have e_reader := (fr 83 (by omega)).trans e_reader
  have e_rowso := (fr 96 (by omega)).trans e_rowso
  have e_night := (fr 98 (by omega)).trans e_night
  have e_model := (fr 100 (by omega)).trans e_model
  have e_tbytes := (fr 82 (by omega)).trans e_tbytes
  have e_rnumarr := (fr 95 (by omega)).trans e_rnumarr
  have e_rallarr := (fr 97 (by omega)).trans e_rallarr
  have e_nmostarr := (fr 99 (by omega)).trans e_nmostarr
  have e_mwarr := (fr 101 (by omega)).trans e_mwarr
  have e_mnamesarr := (fr 102 (by omega)).trans e_mnamesarr
  have e_mkeptarr := (fr 103 (by omega)).trans e_mkeptarr
  have e_mtextarr := (fr 104 (by omega)).trans e_mtextarr
  have e_mrefusedarr := (fr 105 (by omega)).trans e_mrefusedarr
  have e_miwordarr := (fr 106 (by omega)).trans e_miwordarr
  have e_minamearr := (fr 107 (by omega)).trans e_minamearr
  have e_mnumberarr := (fr 108 (by omega)).trans e_mnumberarr
  have e_mleftarr := (fr 109 (by omega)).trans e_mleftarr
  have e_ringarr := (fr 13 (by omega)).trans e_ringarr
  have e_imgarr := (fr 58 (by omega)).trans e_imgarr
  have H_now := H_now.fr (fun j h1 h2 => fr j (by omega))
  have H_draft := H_draft.fr (fun j h1 h2 => fr j (by omega))
  have F_ring := fun i (hi : i < 4) => (F_ring i hi).fr (fun j h1 h2 => fr j (by omega))
  have F_imgs := fun i (hi : i < 2) => (F_imgs i hi).fr (fun j h1 h2 => fr j (by omega))
  refine G_aload_n hC 2 2 rfl rfl dL_law_361 ?_
  refine G_aload_n hC 0 0 rfl rfl dL_law_362 ?_
  refine G_iload_n hC 3 3 rfl rfl dL_law_363 ?_
  refine G_iconst hC (v := 1) (by decide) dL_law_364 ?_
  refine G_iadd hC dL_law_365 ?_
  refine G_sld hC hX hbl hbA (vin hi h8 hL 1 (by decide)) dL_law_366 ?_
  refine G_aload_n hC 0 0 rfl rfl dL_law_367 ?_
  refine G_iload_n hC 3 3 rfl rfl dL_law_368 ?_
  refine G_iconst hC (v := 2) (by decide) dL_law_369 ?_
  refine G_iadd hC dL_law_370 ?_
  refine G_sld hC hX hbl hbA (vin hi h8 hL 2 (by decide)) dL_law_371 ?_
  refine G_cVi (st := [.int q358.1]) hC _ 100 (by omega) (c_X11_held  l (by omega) e_model e_mwarr e_mrefusedarr h372) (cwV 2 hC.hts gL_law_X11_held rfl rfl rfl (by decide +kernel) ⟨Nat.le_of_ble_eq_true rfl, Nat.le_of_ble_eq_true rfl⟩) e_model rfl rfl (Nat.le_of_ble_eq_true rfl) (Nat.le_of_ble_eq_true rfl) (Nat.le_of_ble_eq_true rfl) rfl dL_law_372 (fun r372 en3 hw => ?_)
  obtain ⟨rfl, e_mrefusedarr, fr⟩ := hw
  have e_tt := (fr 0 (by omega)).trans e_tt
  have e_past := (fr 12 (by omega)).trans e_past
  have e_text := (fr 81 (by omega)).trans e_text
  have e_reader := (fr 83 (by omega)).trans e_reader
  have e_rowso := (fr 96 (by omega)).trans e_rowso
  have e_night := (fr 98 (by omega)).trans e_night
  have e_model := (fr 100 (by omega)).trans e_model
  have e_tbytes := (fr 82 (by omega)).trans e_tbytes
  have e_rnumarr := (fr 95 (by omega)).trans e_rnumarr
  have e_rallarr := (fr 97 (by omega)).trans e_rallarr
  have e_nmostarr := (fr 99 (by omega)).trans e_nmostarr
  have e_mwarr := (fr 101 (by omega)).trans e_mwarr
  have e_mnamesarr := (fr 102 (by omega)).trans e_mnamesarr
  have e_mkeptarr := (fr 103 (by omega)).trans e_mkeptarr
  have e_mtextarr := (fr 104 (by omega)).trans e_mtextarr
  have e_miwordarr := (fr 106 (by omega)).trans e_miwordarr
  have e_minamearr := (fr 107 (by omega)).trans e_minamearr
  have e_mnumberarr := (fr 108 (by omega)).trans e_mnumberarr
  have e_mleftarr := (fr 109 (by omega)).trans e_mleftarr
  have e_ringarr := (fr 13 (by omega)).trans e_ringarr
  have e_imgarr := (fr 58 (by omega)).trans e_imgarr
  have H_now := H_now.fr (fun j h1 h2 => fr j (by omega))
  have H_draft := H_draft.fr (fun j h1 h2 => fr j (by omega))
  have F_ring := fun i (hi : i < 4) => (F_ring i hi).fr (fun j h1 h2 => fr j (by omega))
  have F_imgs := fun i (hi : i < 2) => (F_imgs i hi).fr (fun j h1 h2 => fr j (by omega))
  refine G_icmp_eq hC 1007 dL_law_375 (by decide) (fun _ => ?_) (fun z => absurd heq z)
  exact K _ _ _ _ _ _ _ _ _ _ _ _ _ _ _ _ _ _ _ _ _ _ _ _ _ _ _ _ _ _ _ _ _ _ _ _ _ _ _ _ _ _ _ _ _ _ _ _ _ _ _ _ ⟨e_tt, e_past, e_text, e_reader, e_rowso, e_night, e_model, e_tbytes, e_rnumarr, e_rallarr, e_nmostarr, e_mwarr, e_mnamesarr, e_mkeptarr, e_mtextarr, e_mrefusedarr, e_miwordarr, e_minamearr, e_mnumberarr, e_mleftarr, e_ringarr, e_imgarr, H_now, H_draft, F_ring, F_imgs⟩ hR2
set_option maxHeartbeats 4000000 in
set_option maxRecDepth 100000 in
theorem lc_think {p : Program} {l : Launch} {e : Env} {s : State} {m : MethodId} {below : List Frame} {meth : Method} {c : Code} {D : va_G} {cs : Nat → ClassId} {sa : Nat → Nat} {ad : Nat → Nat} {b L : Nat} {xs : Nat → Int32} (hL : L ≤ 4096) (hX : va_X b L xs s s.heap) (hbl : b < s.heap.size) (hC : Ck p s m #[Value.ref b] c code 4 wsL_law RL D cs sa 110 ad (fun q => s.heap.size ≤ q)) {i : Nat} {x3 : Int32} (hi : x3 = nI i) (h8 : i + 8 ≤ L) {en1 : Nat → va_E} {keptImages : Int32} {fab : Int64} {fbe : Int64} {bads : Int32} {noes : Int32} {fulls : Int32} {now : HallV} {bl : Int32} {kp : Int32} {ring : Nat → HallV} {imgs : Nat → HallV} {tlen : Int32} {tby : Nat → Int32} {rkind : Int32} {rstart : Int32} {rbehind : Int32} {rname : Int64} {ritems : Int32} {rfault : Int32} {rrefused : Int32} {draft : HallV} {rnums : Nat → Int32} {rall : Nat → Int32} {rheld : Int32} {rsecs : Int32} {rhelp : Int32} {rna : Int32} {rout : Int32} {rmiss : Int64} {nmost : Nat → Int32} {nlearnt : Int32} {mw : Nat → Int32} {mnames : Nat → Int64} {mkept : Nat → Int32} {mtext : Nat → Int32} {mtexted : Int32} {mundo : Int32} {mabove : Int64} {mbelow : Int64} {mrefused : Nat → Int32} {miword : Nat → Int32} {miname : Nat → Int64} {mnumber : Nat → Int32} {mitems : Int32} {mat : Int32} {mfault : Int32} {mtakes : Int32} {mmisses : Int64} {mbest : Int64} {mleft : Nat → Int32} {mh : Int64} (hF : LFacts cs ad en1 keptImages fab fbe bads noes fulls now bl kp ring imgs tlen tby rkind rstart rbehind rname ritems rfault rrefused draft rnums rall rheld rsecs rhelp rna rout rmiss nmost nlearnt mw mnames mkept mtext mtexted mundo mabove mbelow mrefused miword miname mnumber mitems mat mfault mtakes mmisses mbest mleft mh) (hR : LRel keptImages fab fbe bads noes fulls now bl kp ring imgs tlen tby rkind rstart rbehind rname ritems rfault rrefused draft rnums rall rheld rsecs rhelp rna rout rmiss nmost nlearnt mw mnames mkept mtext mtexted mundo mabove mbelow mrefused miword miname mnumber mitems mat mfault mtakes mmisses mbest mleft mh) (K : ∀ (en2 : Nat → va_E) (keptImages : Int32) (fab : Int64) (fbe : Int64) (bads : Int32) (noes : Int32) (fulls : Int32) (now : HallV) (bl : Int32) (kp : Int32) (ring : Nat → HallV) (imgs : Nat → HallV) (tlen : Int32) (tby : Nat → Int32) (rkind : Int32) (rstart : Int32) (rbehind : Int32) (rname : Int64) (ritems : Int32) (rfault : Int32) (rrefused : Int32) (draft : HallV) (rnums : Nat → Int32) (rall : Nat → Int32) (rheld : Int32) (rsecs : Int32) (rhelp : Int32) (rna : Int32) (rout : Int32) (rmiss : Int64) (nmost : Nat → Int32) (nlearnt : Int32) (mw : Nat → Int32) (mnames : Nat → Int64) (mkept : Nat → Int32) (mtext : Nat → Int32) (mtexted : Int32) (mundo : Int32) (mabove : Int64) (mbelow : Int64) (mrefused : Nat → Int32) (miword : Nat → Int32) (miname : Nat → Int64) (mnumber : Nat → Int32) (mitems : Int32) (mat : Int32) (mfault : Int32) (mtakes : Int32) (mmisses : Int64) (mbest : Int64) (mleft : Nat → Int32) (mh : Int64), LFacts cs ad en2 keptImages fab fbe bads noes fulls now bl kp ring imgs tlen tby rkind rstart rbehind rname ritems rfault rrefused draft rnums rall rheld rsecs rhelp rna rout rmiss nmost nlearnt mw mnames mkept mtext mtexted mundo mabove mbelow mrefused miword miname mnumber mitems mat mfault mtakes mmisses mbest mleft mh → LRel keptImages fab fbe bads noes fulls now bl kp ring imgs tlen tby rkind rstart rbehind rname ritems rfault rrefused draft rnums rall rheld rsecs rhelp rna rout rmiss nmost nlearnt mw mnames mkept mtext mtexted mundo mabove mbelow mrefused miword miname mnumber mitems mat mfault mtakes mmisses mbest mleft mh → G p l e room_1 s m #[Value.ref b] below meth c D 110 ad (fun q => s.heap.size ≤ q) 4 110 6275 (lw_Z below #[Value.ref b] s) en2 1007 [(0, .ref b), (1, .ref (ad 0)), (2, .ref (ad 100)), (3, .int x3)] []) : G p l e room_1 s m #[Value.ref b] below meth c D 110 ad (fun q => s.heap.size ≤ q) 4 110 6275 (lw_Z below #[Value.ref b] s) en1 380 [(0, .ref b), (1, .ref (ad 0)), (2, .ref (ad 100)), (3, .int x3)] [] := by
  have hbA : ¬ (fun q => s.heap.size ≤ q) b := Nat.not_le.mpr hbl
  obtain ⟨e_tt, e_past, e_text, e_reader, e_rowso, e_night, e_model, e_tbytes, e_rnumarr, e_rallarr, e_nmostarr, e_mwarr, e_mnamesarr, e_mkeptarr, e_mtextarr, e_mrefusedarr, e_miwordarr, e_minamearr, e_mnumberarr, e_mleftarr, e_ringarr, e_imgarr, H_now, H_draft, F_ring, F_imgs⟩ := hF
  obtain ⟨q386, q395, h386, h395, heq, hR2⟩ := r_think (bads := bads) (noes := noes) (fulls := fulls) (now := now) (bl := bl) (kp := kp) (ring := ring) (mw := mw) (mnames := mnames) (mundo := mundo) (mrefused := mrefused) hR (xs (x3 + (1 : Int32)).toNatClampNeg)
  refine G_aload_n hC 1 1 rfl rfl dL_law_380 ?_
  refine G_aload_n hC 0 0 rfl rfl dL_law_381 ?_
  refine G_iload_n hC 3 3 rfl rfl dL_law_382 ?_
  refine G_iconst hC (v := 1) (by decide) dL_law_383 ?_
  refine G_iadd hC dL_law_384 ?_
  refine G_sld hC hX hbl hbA (vin hi h8 hL 1 (by decide)) dL_law_385 ?_
  refine G_cVi (st := []) hC _ 0 (by omega) (c_X10_think  l (by omega) e_tt e_past e_ringarr H_now F_ring h386) (cwV 1 hC.hts gL_law_X10_think rfl rfl rfl (by decide +kernel) ⟨Nat.le_of_ble_eq_true rfl, Nat.le_of_ble_eq_true rfl⟩) e_tt rfl rfl (Nat.le_of_ble_eq_true rfl) (Nat.le_of_ble_eq_true rfl) (Nat.le_of_ble_eq_true rfl) rfl dL_law_386 (fun r386 en2 hw => ?_)
  obtain ⟨rfl, e_tt, e_past, H_now, F_ring, fr⟩ := hw
  have e_text := (fr 81 (by omega) (by omega) (by omega) (by omega)).trans e_text
  have e_reader := (fr 83 (by omega) (by omega) (by omega) (by omega)).trans e_reader
  have e_rowso := (fr 96 (by omega) (by omega) (by omega) (by omega)).trans e_rowso
  have e_night := (fr 98 (by omega) (by omega) (by omega) (by omega)).trans e_night
  have e_model := (fr 100 (by omega) (by omega) (by omega) (by omega)).trans e_model
  have e_tbytes := (fr 82 (by omega) (by omega) (by omega) (by omega)).trans e_tbytes
  have e_rnumarr := (fr 95 (by omega) (by omega) (by omega) (by omega)).trans e_rnumarr
  have e_rallarr := (fr 97 (by omega) (by omega) (by omega) (by omega)).trans e_rallarr
  have e_nmostarr := (fr 99 (by omega) (by omega) (by omega) (by omega)).trans e_nmostarr
  have e_mwarr := (fr 101 (by omega) (by omega) (by omega) (by omega)).trans e_mwarr
  have e_mnamesarr := (fr 102 (by omega) (by omega) (by omega) (by omega)).trans e_mnamesarr
  have e_mkeptarr := (fr 103 (by omega) (by omega) (by omega) (by omega)).trans e_mkeptarr
  have e_mtextarr := (fr 104 (by omega) (by omega) (by omega) (by omega)).trans e_mtextarr
  have e_mrefusedarr := (fr 105 (by omega) (by omega) (by omega) (by omega)).trans e_mrefusedarr
  have e_miwordarr := (fr 106 (by omega) (by omega) (by omega) (by omega)).trans e_miwordarr
  have e_minamearr := (fr 107 (by omega) (by omega) (by omega) (by omega)).trans e_minamearr
  have e_mnumberarr := (fr 108 (by omega) (by omega) (by omega) (by omega)).trans e_mnumberarr
  have e_mleftarr := (fr 109 (by omega) (by omega) (by omega) (by omega)).trans e_mleftarr
  have e_ringarr := (fr 13 (by omega) (by omega) (by omega) (by omega)).trans e_ringarr
  have e_imgarr := (fr 58 (by omega) (by omega) (by omega) (by omega)).trans e_imgarr
  have H_draft := H_draft.fr (fun j h1 h2 => fr j (by omega) (by omega) (by omega) (by omega))
  have F_imgs := fun i (hi : i < 2) => (F_imgs i hi).fr (fun j h1 h2 => fr j (by omega) (by omega) (by omega) (by omega))
  refine G_aload_n hC 2 2 rfl rfl dL_law_389 ?_
  refine G_aload_n hC 0 0 rfl rfl dL_law_390 ?_
  refine G_iload_n hC 3 3 rfl rfl dL_law_391 ?_
  refine G_iconst hC (v := 1) (by decide) dL_law_392 ?_
  refine G_iadd hC dL_law_393 ?_
  refine G_sld hC hX hbl hbA (vin hi h8 hL 1 (by decide)) dL_law_394 ?_
  refine G_cVi (st := [.int q386.1]) hC _ 100 (by omega) (c_X11_think  l (by omega) e_model e_mwarr e_mnamesarr e_mrefusedarr h395) (cwV 1 hC.hts gL_law_X11_think rfl rfl rfl (by decide +kernel) ⟨Nat.le_of_ble_eq_true rfl, Nat.le_of_ble_eq_true rfl⟩) e_model rfl rfl (Nat.le_of_ble_eq_true rfl) (Nat.le_of_ble_eq_true rfl) (Nat.le_of_ble_eq_true rfl) rfl dL_law_395 (fun r395 en3 hw => ?_)
  obtain ⟨rfl, e_model, e_mwarr, e_mnamesarr, e_mrefusedarr, fr⟩ := hw
  have e_tt := (fr 0 (by omega) (by omega) (by omega) (by omega)).trans e_tt
  have e_past := (fr 12 (by omega) (by omega) (by omega) (by omega)).trans e_past
  have e_text := (fr 81 (by omega) (by omega) (by omega) (by omega)).trans e_text
  have e_reader := (fr 83 (by omega) (by omega) (by omega) (by omega)).trans e_reader
  have e_rowso := (fr 96 (by omega) (by omega) (by omega) (by omega)).trans e_rowso
  have e_night := (fr 98 (by omega) (by omega) (by omega) (by omega)).trans e_night
  have e_tbytes := (fr 82 (by omega) (by omega) (by omega) (by omega)).trans e_tbytes
  have e_rnumarr := (fr 95 (by omega) (by omega) (by omega) (by omega)).trans e_rnumarr
  have e_rallarr := (fr 97 (by omega) (by omega) (by omega) (by omega)).trans e_rallarr
  have e_nmostarr := (fr 99 (by omega) (by omega) (by omega) (by omega)).trans e_nmostarr
  have e_mkeptarr := (fr 103 (by omega) (by omega) (by omega) (by omega)).trans e_mkeptarr
  have e_mtextarr := (fr 104 (by omega) (by omega) (by omega) (by omega)).trans e_mtextarr
  have e_miwordarr := (fr 106 (by omega) (by omega) (by omega) (by omega)).trans e_miwordarr
  have e_minamearr := (fr 107 (by omega) (by omega) (by omega) (by omega)).trans e_minamearr
  have e_mnumberarr := (fr 108 (by omega) (by omega) (by omega) (by omega)).trans e_mnumberarr
  have e_mleftarr := (fr 109 (by omega) (by omega) (by omega) (by omega)).trans e_mleftarr
  have e_ringarr := (fr 13 (by omega) (by omega) (by omega) (by omega)).trans e_ringarr
  have e_imgarr := (fr 58 (by omega) (by omega) (by omega) (by omega)).trans e_imgarr
  have H_now := H_now.fr (fun j h1 h2 => fr j (by omega) (by omega) (by omega) (by omega))
  have H_draft := H_draft.fr (fun j h1 h2 => fr j (by omega) (by omega) (by omega) (by omega))
  have F_ring := fun i (hi : i < 4) => (F_ring i hi).fr (fun j h1 h2 => fr j (by omega) (by omega) (by omega) (by omega))
  have F_imgs := fun i (hi : i < 2) => (F_imgs i hi).fr (fun j h1 h2 => fr j (by omega) (by omega) (by omega) (by omega))
  refine G_icmp_eq hC 1007 dL_law_398 (by decide) (fun _ => ?_) (fun z => absurd heq z)
  exact K _ _ _ _ _ _ _ _ _ _ _ _ _ _ _ _ _ _ _ _ _ _ _ _ _ _ _ _ _ _ _ _ _ _ _ _ _ _ _ _ _ _ _ _ _ _ _ _ _ _ _ _ ⟨e_tt, e_past, e_text, e_reader, e_rowso, e_night, e_model, e_tbytes, e_rnumarr, e_rallarr, e_nmostarr, e_mwarr, e_mnamesarr, e_mkeptarr, e_mtextarr, e_mrefusedarr, e_miwordarr, e_minamearr, e_mnumberarr, e_mleftarr, e_ringarr, e_imgarr, H_now, H_draft, F_ring, F_imgs⟩ hR2
set_option maxHeartbeats 4000000 in
set_option maxRecDepth 100000 in
theorem lc_days {p : Program} {l : Launch} {e : Env} {s : State} {m : MethodId} {below : List Frame} {meth : Method} {c : Code} {D : va_G} {cs : Nat → ClassId} {sa : Nat → Nat} {ad : Nat → Nat} {b L : Nat} {xs : Nat → Int32} (hL : L ≤ 4096) (hX : va_X b L xs s s.heap) (hbl : b < s.heap.size) (hC : Ck p s m #[Value.ref b] c code 4 wsL_law RL D cs sa 110 ad (fun q => s.heap.size ≤ q)) {i : Nat} {x3 : Int32} (hi : x3 = nI i) (h8 : i + 8 ≤ L) {en1 : Nat → va_E} {keptImages : Int32} {fab : Int64} {fbe : Int64} {bads : Int32} {noes : Int32} {fulls : Int32} {now : HallV} {bl : Int32} {kp : Int32} {ring : Nat → HallV} {imgs : Nat → HallV} {tlen : Int32} {tby : Nat → Int32} {rkind : Int32} {rstart : Int32} {rbehind : Int32} {rname : Int64} {ritems : Int32} {rfault : Int32} {rrefused : Int32} {draft : HallV} {rnums : Nat → Int32} {rall : Nat → Int32} {rheld : Int32} {rsecs : Int32} {rhelp : Int32} {rna : Int32} {rout : Int32} {rmiss : Int64} {nmost : Nat → Int32} {nlearnt : Int32} {mw : Nat → Int32} {mnames : Nat → Int64} {mkept : Nat → Int32} {mtext : Nat → Int32} {mtexted : Int32} {mundo : Int32} {mabove : Int64} {mbelow : Int64} {mrefused : Nat → Int32} {miword : Nat → Int32} {miname : Nat → Int64} {mnumber : Nat → Int32} {mitems : Int32} {mat : Int32} {mfault : Int32} {mtakes : Int32} {mmisses : Int64} {mbest : Int64} {mleft : Nat → Int32} {mh : Int64} (hF : LFacts cs ad en1 keptImages fab fbe bads noes fulls now bl kp ring imgs tlen tby rkind rstart rbehind rname ritems rfault rrefused draft rnums rall rheld rsecs rhelp rna rout rmiss nmost nlearnt mw mnames mkept mtext mtexted mundo mabove mbelow mrefused miword miname mnumber mitems mat mfault mtakes mmisses mbest mleft mh) (hR : LRel keptImages fab fbe bads noes fulls now bl kp ring imgs tlen tby rkind rstart rbehind rname ritems rfault rrefused draft rnums rall rheld rsecs rhelp rna rout rmiss nmost nlearnt mw mnames mkept mtext mtexted mundo mabove mbelow mrefused miword miname mnumber mitems mat mfault mtakes mmisses mbest mleft mh) (K : ∀ (en2 : Nat → va_E) (keptImages : Int32) (fab : Int64) (fbe : Int64) (bads : Int32) (noes : Int32) (fulls : Int32) (now : HallV) (bl : Int32) (kp : Int32) (ring : Nat → HallV) (imgs : Nat → HallV) (tlen : Int32) (tby : Nat → Int32) (rkind : Int32) (rstart : Int32) (rbehind : Int32) (rname : Int64) (ritems : Int32) (rfault : Int32) (rrefused : Int32) (draft : HallV) (rnums : Nat → Int32) (rall : Nat → Int32) (rheld : Int32) (rsecs : Int32) (rhelp : Int32) (rna : Int32) (rout : Int32) (rmiss : Int64) (nmost : Nat → Int32) (nlearnt : Int32) (mw : Nat → Int32) (mnames : Nat → Int64) (mkept : Nat → Int32) (mtext : Nat → Int32) (mtexted : Int32) (mundo : Int32) (mabove : Int64) (mbelow : Int64) (mrefused : Nat → Int32) (miword : Nat → Int32) (miname : Nat → Int64) (mnumber : Nat → Int32) (mitems : Int32) (mat : Int32) (mfault : Int32) (mtakes : Int32) (mmisses : Int64) (mbest : Int64) (mleft : Nat → Int32) (mh : Int64), LFacts cs ad en2 keptImages fab fbe bads noes fulls now bl kp ring imgs tlen tby rkind rstart rbehind rname ritems rfault rrefused draft rnums rall rheld rsecs rhelp rna rout rmiss nmost nlearnt mw mnames mkept mtext mtexted mundo mabove mbelow mrefused miword miname mnumber mitems mat mfault mtakes mmisses mbest mleft mh → LRel keptImages fab fbe bads noes fulls now bl kp ring imgs tlen tby rkind rstart rbehind rname ritems rfault rrefused draft rnums rall rheld rsecs rhelp rna rout rmiss nmost nlearnt mw mnames mkept mtext mtexted mundo mabove mbelow mrefused miword miname mnumber mitems mat mfault mtakes mmisses mbest mleft mh → G p l e room_1 s m #[Value.ref b] below meth c D 110 ad (fun q => s.heap.size ≤ q) 4 110 6275 (lw_Z below #[Value.ref b] s) en2 1007 [(0, .ref b), (1, .ref (ad 0)), (2, .ref (ad 100)), (3, .int x3)] []) : G p l e room_1 s m #[Value.ref b] below meth c D 110 ad (fun q => s.heap.size ≤ q) 4 110 6275 (lw_Z below #[Value.ref b] s) en1 403 [(0, .ref b), (1, .ref (ad 0)), (2, .ref (ad 100)), (3, .int x3)] [] := by
  have hbA : ¬ (fun q => s.heap.size ≤ q) b := Nat.not_le.mpr hbl
  obtain ⟨e_tt, e_past, e_text, e_reader, e_rowso, e_night, e_model, e_tbytes, e_rnumarr, e_rallarr, e_nmostarr, e_mwarr, e_mnamesarr, e_mkeptarr, e_mtextarr, e_mrefusedarr, e_miwordarr, e_minamearr, e_mnumberarr, e_mleftarr, e_ringarr, e_imgarr, H_now, H_draft, F_ring, F_imgs⟩ := hF
  obtain ⟨q409, q418, h409, h418, heq, hR2⟩ := r_days (bads := bads) (noes := noes) (fulls := fulls) (now := now) (bl := bl) (kp := kp) (ring := ring) (mw := mw) (mnames := mnames) (mundo := mundo) (mrefused := mrefused) hR (xs (x3 + (1 : Int32)).toNatClampNeg)
  refine G_aload_n hC 1 1 rfl rfl dL_law_403 ?_
  refine G_aload_n hC 0 0 rfl rfl dL_law_404 ?_
  refine G_iload_n hC 3 3 rfl rfl dL_law_405 ?_
  refine G_iconst hC (v := 1) (by decide) dL_law_406 ?_
  refine G_iadd hC dL_law_407 ?_
  refine G_sld hC hX hbl hbA (vin hi h8 hL 1 (by decide)) dL_law_408 ?_
  refine G_cVi (st := []) hC _ 0 (by omega) (c_X10_days  l (by omega) e_tt e_past e_ringarr H_now F_ring h409) (cwV 1 hC.hts gL_law_X10_days rfl rfl rfl (by decide +kernel) ⟨Nat.le_of_ble_eq_true rfl, Nat.le_of_ble_eq_true rfl⟩) e_tt rfl rfl (Nat.le_of_ble_eq_true rfl) (Nat.le_of_ble_eq_true rfl) (Nat.le_of_ble_eq_true rfl) rfl dL_law_409 (fun r409 en2 hw => ?_)
  obtain ⟨rfl, e_tt, e_past, H_now, F_ring, fr⟩ := hw
  have e_text := (fr 81 (by omega) (by omega) (by omega) (by omega)).trans e_text
  have e_reader := (fr 83 (by omega) (by omega) (by omega) (by omega)).trans e_reader
  have e_rowso := (fr 96 (by omega) (by omega) (by omega) (by omega)).trans e_rowso
  have e_night := (fr 98 (by omega) (by omega) (by omega) (by omega)).trans e_night
  have e_model := (fr 100 (by omega) (by omega) (by omega) (by omega)).trans e_model
  have e_tbytes := (fr 82 (by omega) (by omega) (by omega) (by omega)).trans e_tbytes
  have e_rnumarr := (fr 95 (by omega) (by omega) (by omega) (by omega)).trans e_rnumarr
  have e_rallarr := (fr 97 (by omega) (by omega) (by omega) (by omega)).trans e_rallarr
  have e_nmostarr := (fr 99 (by omega) (by omega) (by omega) (by omega)).trans e_nmostarr
  have e_mwarr := (fr 101 (by omega) (by omega) (by omega) (by omega)).trans e_mwarr
  have e_mnamesarr := (fr 102 (by omega) (by omega) (by omega) (by omega)).trans e_mnamesarr
  have e_mkeptarr := (fr 103 (by omega) (by omega) (by omega) (by omega)).trans e_mkeptarr
  have e_mtextarr := (fr 104 (by omega) (by omega) (by omega) (by omega)).trans e_mtextarr
  have e_mrefusedarr := (fr 105 (by omega) (by omega) (by omega) (by omega)).trans e_mrefusedarr
  have e_miwordarr := (fr 106 (by omega) (by omega) (by omega) (by omega)).trans e_miwordarr
  have e_minamearr := (fr 107 (by omega) (by omega) (by omega) (by omega)).trans e_minamearr
  have e_mnumberarr := (fr 108 (by omega) (by omega) (by omega) (by omega)).trans e_mnumberarr
  have e_mleftarr := (fr 109 (by omega) (by omega) (by omega) (by omega)).trans e_mleftarr
  have e_ringarr := (fr 13 (by omega) (by omega) (by omega) (by omega)).trans e_ringarr
  have e_imgarr := (fr 58 (by omega) (by omega) (by omega) (by omega)).trans e_imgarr
  have H_draft := H_draft.fr (fun j h1 h2 => fr j (by omega) (by omega) (by omega) (by omega))
  have F_imgs := fun i (hi : i < 2) => (F_imgs i hi).fr (fun j h1 h2 => fr j (by omega) (by omega) (by omega) (by omega))
  refine G_aload_n hC 2 2 rfl rfl dL_law_412 ?_
  refine G_aload_n hC 0 0 rfl rfl dL_law_413 ?_
  refine G_iload_n hC 3 3 rfl rfl dL_law_414 ?_
  refine G_iconst hC (v := 1) (by decide) dL_law_415 ?_
  refine G_iadd hC dL_law_416 ?_
  refine G_sld hC hX hbl hbA (vin hi h8 hL 1 (by decide)) dL_law_417 ?_
  refine G_cVi (st := [.int q409.1]) hC _ 100 (by omega) (c_X11_days  l (by omega) e_model e_mwarr e_mnamesarr e_mrefusedarr h418) (cwV 1 hC.hts gL_law_X11_days rfl rfl rfl (by decide +kernel) ⟨Nat.le_of_ble_eq_true rfl, Nat.le_of_ble_eq_true rfl⟩) e_model rfl rfl (Nat.le_of_ble_eq_true rfl) (Nat.le_of_ble_eq_true rfl) (Nat.le_of_ble_eq_true rfl) rfl dL_law_418 (fun r418 en3 hw => ?_)
  obtain ⟨rfl, e_model, e_mwarr, e_mnamesarr, e_mrefusedarr, fr⟩ := hw
  have e_tt := (fr 0 (by omega) (by omega) (by omega) (by omega)).trans e_tt
  have e_past := (fr 12 (by omega) (by omega) (by omega) (by omega)).trans e_past
  have e_text := (fr 81 (by omega) (by omega) (by omega) (by omega)).trans e_text
  have e_reader := (fr 83 (by omega) (by omega) (by omega) (by omega)).trans e_reader
  have e_rowso := (fr 96 (by omega) (by omega) (by omega) (by omega)).trans e_rowso
  have e_night := (fr 98 (by omega) (by omega) (by omega) (by omega)).trans e_night
  have e_tbytes := (fr 82 (by omega) (by omega) (by omega) (by omega)).trans e_tbytes
  have e_rnumarr := (fr 95 (by omega) (by omega) (by omega) (by omega)).trans e_rnumarr
  have e_rallarr := (fr 97 (by omega) (by omega) (by omega) (by omega)).trans e_rallarr
  have e_nmostarr := (fr 99 (by omega) (by omega) (by omega) (by omega)).trans e_nmostarr
  have e_mkeptarr := (fr 103 (by omega) (by omega) (by omega) (by omega)).trans e_mkeptarr
  have e_mtextarr := (fr 104 (by omega) (by omega) (by omega) (by omega)).trans e_mtextarr
  have e_miwordarr := (fr 106 (by omega) (by omega) (by omega) (by omega)).trans e_miwordarr
  have e_minamearr := (fr 107 (by omega) (by omega) (by omega) (by omega)).trans e_minamearr
  have e_mnumberarr := (fr 108 (by omega) (by omega) (by omega) (by omega)).trans e_mnumberarr
  have e_mleftarr := (fr 109 (by omega) (by omega) (by omega) (by omega)).trans e_mleftarr
  have e_ringarr := (fr 13 (by omega) (by omega) (by omega) (by omega)).trans e_ringarr
  have e_imgarr := (fr 58 (by omega) (by omega) (by omega) (by omega)).trans e_imgarr
  have H_now := H_now.fr (fun j h1 h2 => fr j (by omega) (by omega) (by omega) (by omega))
  have H_draft := H_draft.fr (fun j h1 h2 => fr j (by omega) (by omega) (by omega) (by omega))
  have F_ring := fun i (hi : i < 4) => (F_ring i hi).fr (fun j h1 h2 => fr j (by omega) (by omega) (by omega) (by omega))
  have F_imgs := fun i (hi : i < 2) => (F_imgs i hi).fr (fun j h1 h2 => fr j (by omega) (by omega) (by omega) (by omega))
  refine G_icmp_eq hC 1007 dL_law_421 (by decide) (fun _ => ?_) (fun z => absurd heq z)
  exact K _ _ _ _ _ _ _ _ _ _ _ _ _ _ _ _ _ _ _ _ _ _ _ _ _ _ _ _ _ _ _ _ _ _ _ _ _ _ _ _ _ _ _ _ _ _ _ _ _ _ _ _ ⟨e_tt, e_past, e_text, e_reader, e_rowso, e_night, e_model, e_tbytes, e_rnumarr, e_rallarr, e_nmostarr, e_mwarr, e_mnamesarr, e_mkeptarr, e_mtextarr, e_mrefusedarr, e_miwordarr, e_minamearr, e_mnumberarr, e_mleftarr, e_ringarr, e_imgarr, H_now, H_draft, F_ring, F_imgs⟩ hR2
set_option maxHeartbeats 4000000 in
set_option maxRecDepth 100000 in
theorem lc_undo {p : Program} {l : Launch} {e : Env} {s : State} {m : MethodId} {below : List Frame} {meth : Method} {c : Code} {D : va_G} {cs : Nat → ClassId} {sa : Nat → Nat} {ad : Nat → Nat} {b L : Nat} {xs : Nat → Int32} (hL : L ≤ 4096) (hX : va_X b L xs s s.heap) (hbl : b < s.heap.size) (hC : Ck p s m #[Value.ref b] c code 4 wsL_law RL D cs sa 110 ad (fun q => s.heap.size ≤ q)) {i : Nat} {x3 : Int32} (hi : x3 = nI i) (h8 : i + 8 ≤ L) {en1 : Nat → va_E} {keptImages : Int32} {fab : Int64} {fbe : Int64} {bads : Int32} {noes : Int32} {fulls : Int32} {now : HallV} {bl : Int32} {kp : Int32} {ring : Nat → HallV} {imgs : Nat → HallV} {tlen : Int32} {tby : Nat → Int32} {rkind : Int32} {rstart : Int32} {rbehind : Int32} {rname : Int64} {ritems : Int32} {rfault : Int32} {rrefused : Int32} {draft : HallV} {rnums : Nat → Int32} {rall : Nat → Int32} {rheld : Int32} {rsecs : Int32} {rhelp : Int32} {rna : Int32} {rout : Int32} {rmiss : Int64} {nmost : Nat → Int32} {nlearnt : Int32} {mw : Nat → Int32} {mnames : Nat → Int64} {mkept : Nat → Int32} {mtext : Nat → Int32} {mtexted : Int32} {mundo : Int32} {mabove : Int64} {mbelow : Int64} {mrefused : Nat → Int32} {miword : Nat → Int32} {miname : Nat → Int64} {mnumber : Nat → Int32} {mitems : Int32} {mat : Int32} {mfault : Int32} {mtakes : Int32} {mmisses : Int64} {mbest : Int64} {mleft : Nat → Int32} {mh : Int64} (hF : LFacts cs ad en1 keptImages fab fbe bads noes fulls now bl kp ring imgs tlen tby rkind rstart rbehind rname ritems rfault rrefused draft rnums rall rheld rsecs rhelp rna rout rmiss nmost nlearnt mw mnames mkept mtext mtexted mundo mabove mbelow mrefused miword miname mnumber mitems mat mfault mtakes mmisses mbest mleft mh) (hR : LRel keptImages fab fbe bads noes fulls now bl kp ring imgs tlen tby rkind rstart rbehind rname ritems rfault rrefused draft rnums rall rheld rsecs rhelp rna rout rmiss nmost nlearnt mw mnames mkept mtext mtexted mundo mabove mbelow mrefused miword miname mnumber mitems mat mfault mtakes mmisses mbest mleft mh) (K : ∀ (en2 : Nat → va_E) (keptImages : Int32) (fab : Int64) (fbe : Int64) (bads : Int32) (noes : Int32) (fulls : Int32) (now : HallV) (bl : Int32) (kp : Int32) (ring : Nat → HallV) (imgs : Nat → HallV) (tlen : Int32) (tby : Nat → Int32) (rkind : Int32) (rstart : Int32) (rbehind : Int32) (rname : Int64) (ritems : Int32) (rfault : Int32) (rrefused : Int32) (draft : HallV) (rnums : Nat → Int32) (rall : Nat → Int32) (rheld : Int32) (rsecs : Int32) (rhelp : Int32) (rna : Int32) (rout : Int32) (rmiss : Int64) (nmost : Nat → Int32) (nlearnt : Int32) (mw : Nat → Int32) (mnames : Nat → Int64) (mkept : Nat → Int32) (mtext : Nat → Int32) (mtexted : Int32) (mundo : Int32) (mabove : Int64) (mbelow : Int64) (mrefused : Nat → Int32) (miword : Nat → Int32) (miname : Nat → Int64) (mnumber : Nat → Int32) (mitems : Int32) (mat : Int32) (mfault : Int32) (mtakes : Int32) (mmisses : Int64) (mbest : Int64) (mleft : Nat → Int32) (mh : Int64), LFacts cs ad en2 keptImages fab fbe bads noes fulls now bl kp ring imgs tlen tby rkind rstart rbehind rname ritems rfault rrefused draft rnums rall rheld rsecs rhelp rna rout rmiss nmost nlearnt mw mnames mkept mtext mtexted mundo mabove mbelow mrefused miword miname mnumber mitems mat mfault mtakes mmisses mbest mleft mh → LRel keptImages fab fbe bads noes fulls now bl kp ring imgs tlen tby rkind rstart rbehind rname ritems rfault rrefused draft rnums rall rheld rsecs rhelp rna rout rmiss nmost nlearnt mw mnames mkept mtext mtexted mundo mabove mbelow mrefused miword miname mnumber mitems mat mfault mtakes mmisses mbest mleft mh → G p l e room_1 s m #[Value.ref b] below meth c D 110 ad (fun q => s.heap.size ≤ q) 4 110 6275 (lw_Z below #[Value.ref b] s) en2 1007 [(0, .ref b), (1, .ref (ad 0)), (2, .ref (ad 100)), (3, .int x3)] []) : G p l e room_1 s m #[Value.ref b] below meth c D 110 ad (fun q => s.heap.size ≤ q) 4 110 6275 (lw_Z below #[Value.ref b] s) en1 426 [(0, .ref b), (1, .ref (ad 0)), (2, .ref (ad 100)), (3, .int x3)] [] := by
  have hbA : ¬ (fun q => s.heap.size ≤ q) b := Nat.not_le.mpr hbl
  obtain ⟨e_tt, e_past, e_text, e_reader, e_rowso, e_night, e_model, e_tbytes, e_rnumarr, e_rallarr, e_nmostarr, e_mwarr, e_mnamesarr, e_mkeptarr, e_mtextarr, e_mrefusedarr, e_miwordarr, e_minamearr, e_mnumberarr, e_mleftarr, e_ringarr, e_imgarr, H_now, H_draft, F_ring, F_imgs⟩ := hF
  obtain ⟨q427, q431, h427, h431, heq, hR2⟩ := r_undo (bads := bads) (noes := noes) (fulls := fulls) (now := now) (bl := bl) (kp := kp) (ring := ring) (mw := mw) (mnames := mnames) (mundo := mundo) (mrefused := mrefused) hR 
  refine G_aload_n hC 1 1 rfl rfl dL_law_426 ?_
  refine G_cVi (st := []) hC _ 0 (by omega) (c_X10_undo  l (by omega) e_tt e_past e_ringarr H_now F_ring h427) (cwV 0 hC.hts gL_law_X10_undo rfl rfl rfl (by decide +kernel) ⟨Nat.le_of_ble_eq_true rfl, Nat.le_of_ble_eq_true rfl⟩) e_tt rfl rfl (Nat.le_of_ble_eq_true rfl) (Nat.le_of_ble_eq_true rfl) (Nat.le_of_ble_eq_true rfl) rfl dL_law_427 (fun r427 en2 hw => ?_)
  obtain ⟨rfl, e_tt, e_past, H_now, fr⟩ := hw
  have e_text := (fr 81 (by omega) (by omega) (by omega)).trans e_text
  have e_reader := (fr 83 (by omega) (by omega) (by omega)).trans e_reader
  have e_rowso := (fr 96 (by omega) (by omega) (by omega)).trans e_rowso
  have e_night := (fr 98 (by omega) (by omega) (by omega)).trans e_night
  have e_model := (fr 100 (by omega) (by omega) (by omega)).trans e_model
  have e_tbytes := (fr 82 (by omega) (by omega) (by omega)).trans e_tbytes
  have e_rnumarr := (fr 95 (by omega) (by omega) (by omega)).trans e_rnumarr
  have e_rallarr := (fr 97 (by omega) (by omega) (by omega)).trans e_rallarr
  have e_nmostarr := (fr 99 (by omega) (by omega) (by omega)).trans e_nmostarr
  have e_mwarr := (fr 101 (by omega) (by omega) (by omega)).trans e_mwarr
  have e_mnamesarr := (fr 102 (by omega) (by omega) (by omega)).trans e_mnamesarr
  have e_mkeptarr := (fr 103 (by omega) (by omega) (by omega)).trans e_mkeptarr
  have e_mtextarr := (fr 104 (by omega) (by omega) (by omega)).trans e_mtextarr
  have e_mrefusedarr := (fr 105 (by omega) (by omega) (by omega)).trans e_mrefusedarr
  have e_miwordarr := (fr 106 (by omega) (by omega) (by omega)).trans e_miwordarr
  have e_minamearr := (fr 107 (by omega) (by omega) (by omega)).trans e_minamearr
  have e_mnumberarr := (fr 108 (by omega) (by omega) (by omega)).trans e_mnumberarr
  have e_mleftarr := (fr 109 (by omega) (by omega) (by omega)).trans e_mleftarr
  have e_ringarr := (fr 13 (by omega) (by omega) (by omega)).trans e_ringarr
  have e_imgarr := (fr 58 (by omega) (by omega) (by omega)).trans e_imgarr
  have H_draft := H_draft.fr (fun j h1 h2 => fr j (by omega) (by omega) (by omega))
  have F_ring := fun i (hi : i < 4) => (F_ring i hi).fr (fun j h1 h2 => fr j (by omega) (by omega) (by omega))
  have F_imgs := fun i (hi : i < 2) => (F_imgs i hi).fr (fun j h1 h2 => fr j (by omega) (by omega) (by omega))
  refine G_aload_n hC 2 2 rfl rfl dL_law_430 ?_
  refine G_cVi (st := [.int q427.1]) hC _ 100 (by omega) (c_X11_undo  l (by omega) e_model e_mwarr e_mnamesarr e_mrefusedarr h431) (cwV 0 hC.hts gL_law_X11_undo rfl rfl rfl (by decide +kernel) ⟨Nat.le_of_ble_eq_true rfl, Nat.le_of_ble_eq_true rfl⟩) e_model rfl rfl (Nat.le_of_ble_eq_true rfl) (Nat.le_of_ble_eq_true rfl) (Nat.le_of_ble_eq_true rfl) rfl dL_law_431 (fun r431 en3 hw => ?_)
  obtain ⟨rfl, e_model, e_mwarr, e_mnamesarr, e_mrefusedarr, fr⟩ := hw
  have e_tt := (fr 0 (by omega) (by omega) (by omega) (by omega)).trans e_tt
  have e_past := (fr 12 (by omega) (by omega) (by omega) (by omega)).trans e_past
  have e_text := (fr 81 (by omega) (by omega) (by omega) (by omega)).trans e_text
  have e_reader := (fr 83 (by omega) (by omega) (by omega) (by omega)).trans e_reader
  have e_rowso := (fr 96 (by omega) (by omega) (by omega) (by omega)).trans e_rowso
  have e_night := (fr 98 (by omega) (by omega) (by omega) (by omega)).trans e_night
  have e_tbytes := (fr 82 (by omega) (by omega) (by omega) (by omega)).trans e_tbytes
  have e_rnumarr := (fr 95 (by omega) (by omega) (by omega) (by omega)).trans e_rnumarr
  have e_rallarr := (fr 97 (by omega) (by omega) (by omega) (by omega)).trans e_rallarr
  have e_nmostarr := (fr 99 (by omega) (by omega) (by omega) (by omega)).trans e_nmostarr
  have e_mkeptarr := (fr 103 (by omega) (by omega) (by omega) (by omega)).trans e_mkeptarr
  have e_mtextarr := (fr 104 (by omega) (by omega) (by omega) (by omega)).trans e_mtextarr
  have e_miwordarr := (fr 106 (by omega) (by omega) (by omega) (by omega)).trans e_miwordarr
  have e_minamearr := (fr 107 (by omega) (by omega) (by omega) (by omega)).trans e_minamearr
  have e_mnumberarr := (fr 108 (by omega) (by omega) (by omega) (by omega)).trans e_mnumberarr
  have e_mleftarr := (fr 109 (by omega) (by omega) (by omega) (by omega)).trans e_mleftarr
  have e_ringarr := (fr 13 (by omega) (by omega) (by omega) (by omega)).trans e_ringarr
  have e_imgarr := (fr 58 (by omega) (by omega) (by omega) (by omega)).trans e_imgarr
  have H_now := H_now.fr (fun j h1 h2 => fr j (by omega) (by omega) (by omega) (by omega))
  have H_draft := H_draft.fr (fun j h1 h2 => fr j (by omega) (by omega) (by omega) (by omega))
  have F_ring := fun i (hi : i < 4) => (F_ring i hi).fr (fun j h1 h2 => fr j (by omega) (by omega) (by omega) (by omega))
  have F_imgs := fun i (hi : i < 2) => (F_imgs i hi).fr (fun j h1 h2 => fr j (by omega) (by omega) (by omega) (by omega))
  refine G_icmp_eq hC 1007 dL_law_434 (by decide) (fun _ => ?_) (fun z => absurd heq z)
  exact K _ _ _ _ _ _ _ _ _ _ _ _ _ _ _ _ _ _ _ _ _ _ _ _ _ _ _ _ _ _ _ _ _ _ _ _ _ _ _ _ _ _ _ _ _ _ _ _ _ _ _ _ ⟨e_tt, e_past, e_text, e_reader, e_rowso, e_night, e_model, e_tbytes, e_rnumarr, e_rallarr, e_nmostarr, e_mwarr, e_mnamesarr, e_mkeptarr, e_mtextarr, e_mrefusedarr, e_miwordarr, e_minamearr, e_mnumberarr, e_mleftarr, e_ringarr, e_imgarr, H_now, H_draft, F_ring, F_imgs⟩ hR2
set_option maxHeartbeats 4000000 in
set_option maxRecDepth 100000 in
theorem lc_type {p : Program} {l : Launch} {e : Env} {s : State} {m : MethodId} {below : List Frame} {meth : Method} {c : Code} {D : va_G} {cs : Nat → ClassId} {sa : Nat → Nat} {ad : Nat → Nat} {b L : Nat} {xs : Nat → Int32} (hL : L ≤ 4096) (hX : va_X b L xs s s.heap) (hbl : b < s.heap.size) (hC : Ck p s m #[Value.ref b] c code 4 wsL_law RL D cs sa 110 ad (fun q => s.heap.size ≤ q)) {i : Nat} {x3 : Int32} (hi : x3 = nI i) (h8 : i + 8 ≤ L) {en1 : Nat → va_E} {keptImages : Int32} {fab : Int64} {fbe : Int64} {bads : Int32} {noes : Int32} {fulls : Int32} {now : HallV} {bl : Int32} {kp : Int32} {ring : Nat → HallV} {imgs : Nat → HallV} {tlen : Int32} {tby : Nat → Int32} {rkind : Int32} {rstart : Int32} {rbehind : Int32} {rname : Int64} {ritems : Int32} {rfault : Int32} {rrefused : Int32} {draft : HallV} {rnums : Nat → Int32} {rall : Nat → Int32} {rheld : Int32} {rsecs : Int32} {rhelp : Int32} {rna : Int32} {rout : Int32} {rmiss : Int64} {nmost : Nat → Int32} {nlearnt : Int32} {mw : Nat → Int32} {mnames : Nat → Int64} {mkept : Nat → Int32} {mtext : Nat → Int32} {mtexted : Int32} {mundo : Int32} {mabove : Int64} {mbelow : Int64} {mrefused : Nat → Int32} {miword : Nat → Int32} {miname : Nat → Int64} {mnumber : Nat → Int32} {mitems : Int32} {mat : Int32} {mfault : Int32} {mtakes : Int32} {mmisses : Int64} {mbest : Int64} {mleft : Nat → Int32} {mh : Int64} (hF : LFacts cs ad en1 keptImages fab fbe bads noes fulls now bl kp ring imgs tlen tby rkind rstart rbehind rname ritems rfault rrefused draft rnums rall rheld rsecs rhelp rna rout rmiss nmost nlearnt mw mnames mkept mtext mtexted mundo mabove mbelow mrefused miword miname mnumber mitems mat mfault mtakes mmisses mbest mleft mh) (hR : LRel keptImages fab fbe bads noes fulls now bl kp ring imgs tlen tby rkind rstart rbehind rname ritems rfault rrefused draft rnums rall rheld rsecs rhelp rna rout rmiss nmost nlearnt mw mnames mkept mtext mtexted mundo mabove mbelow mrefused miword miname mnumber mitems mat mfault mtakes mmisses mbest mleft mh) (K : ∀ (en2 : Nat → va_E) (keptImages : Int32) (fab : Int64) (fbe : Int64) (bads : Int32) (noes : Int32) (fulls : Int32) (now : HallV) (bl : Int32) (kp : Int32) (ring : Nat → HallV) (imgs : Nat → HallV) (tlen : Int32) (tby : Nat → Int32) (rkind : Int32) (rstart : Int32) (rbehind : Int32) (rname : Int64) (ritems : Int32) (rfault : Int32) (rrefused : Int32) (draft : HallV) (rnums : Nat → Int32) (rall : Nat → Int32) (rheld : Int32) (rsecs : Int32) (rhelp : Int32) (rna : Int32) (rout : Int32) (rmiss : Int64) (nmost : Nat → Int32) (nlearnt : Int32) (mw : Nat → Int32) (mnames : Nat → Int64) (mkept : Nat → Int32) (mtext : Nat → Int32) (mtexted : Int32) (mundo : Int32) (mabove : Int64) (mbelow : Int64) (mrefused : Nat → Int32) (miword : Nat → Int32) (miname : Nat → Int64) (mnumber : Nat → Int32) (mitems : Int32) (mat : Int32) (mfault : Int32) (mtakes : Int32) (mmisses : Int64) (mbest : Int64) (mleft : Nat → Int32) (mh : Int64), LFacts cs ad en2 keptImages fab fbe bads noes fulls now bl kp ring imgs tlen tby rkind rstart rbehind rname ritems rfault rrefused draft rnums rall rheld rsecs rhelp rna rout rmiss nmost nlearnt mw mnames mkept mtext mtexted mundo mabove mbelow mrefused miword miname mnumber mitems mat mfault mtakes mmisses mbest mleft mh → LRel keptImages fab fbe bads noes fulls now bl kp ring imgs tlen tby rkind rstart rbehind rname ritems rfault rrefused draft rnums rall rheld rsecs rhelp rna rout rmiss nmost nlearnt mw mnames mkept mtext mtexted mundo mabove mbelow mrefused miword miname mnumber mitems mat mfault mtakes mmisses mbest mleft mh → G p l e room_1 s m #[Value.ref b] below meth c D 110 ad (fun q => s.heap.size ≤ q) 4 110 6275 (lw_Z below #[Value.ref b] s) en2 1007 [(0, .ref b), (1, .ref (ad 0)), (2, .ref (ad 100)), (3, .int x3)] []) : G p l e room_1 s m #[Value.ref b] below meth c D 110 ad (fun q => s.heap.size ≤ q) 4 110 6275 (lw_Z below #[Value.ref b] s) en1 439 [(0, .ref b), (1, .ref (ad 0)), (2, .ref (ad 100)), (3, .int x3)] [] := by
  have hbA : ¬ (fun q => s.heap.size ≤ q) b := Nat.not_le.mpr hbl
  obtain ⟨e_tt, e_past, e_text, e_reader, e_rowso, e_night, e_model, e_tbytes, e_rnumarr, e_rallarr, e_nmostarr, e_mwarr, e_mnamesarr, e_mkeptarr, e_mtextarr, e_mrefusedarr, e_miwordarr, e_minamearr, e_mnumberarr, e_mleftarr, e_ringarr, e_imgarr, H_now, H_draft, F_ring, F_imgs⟩ := hF
  have k13 : Cond.constantLong RL 13 (4294967295) ∈ wsL_law := by decide +kernel
  obtain ⟨q465, q494, h465, h494, heq, hR2⟩ := r_type (bads := bads) (noes := noes) (fulls := fulls) (tlen := tlen) (tby := tby) (mtext := mtext) (mtexted := mtexted) (mrefused := mrefused) hR ((((xs (x3 + (1 : Int32)).toNatClampNeg).toInt64) <<< ((32 : Int32).toInt64 &&& (63 : Int64))) ||| (((xs (x3 + (2 : Int32)).toNatClampNeg).toInt64) &&& (4294967295 : Int64))) (xs (x3 + (3 : Int32)).toNatClampNeg)
  refine G_aload_n hC 1 1 rfl rfl dL_law_439 ?_
  refine G_aload_n hC 0 0 rfl rfl dL_law_440 ?_
  refine G_iload_n hC 3 3 rfl rfl dL_law_441 ?_
  refine G_iconst hC (v := 1) (by decide) dL_law_442 ?_
  refine G_iadd hC dL_law_443 ?_
  refine G_sld hC hX hbl hbA (vin hi h8 hL 1 (by decide)) dL_law_444 ?_
  refine G_i2l hC dL_law_445 ?_
  refine G_bipush hC (v := 32) (by decide) dL_law_446 ?_
  refine G_lshl hC dL_law_448 ?_
  refine G_aload_n hC 0 0 rfl rfl dL_law_449 ?_
  refine G_iload_n hC 3 3 rfl rfl dL_law_450 ?_
  refine G_iconst hC (v := 2) (by decide) dL_law_451 ?_
  refine G_iadd hC dL_law_452 ?_
  refine G_sld hC hX hbl hbA (vin hi h8 hL 2 (by decide)) dL_law_453 ?_
  refine G_i2l hC dL_law_454 ?_
  refine G_ldc2 hC (v := (4294967295)) k13 dL_law_455 ?_
  refine G_land hC dL_law_458 ?_
  refine G_lor hC dL_law_459 ?_
  refine G_aload_n hC 0 0 rfl rfl dL_law_460 ?_
  refine G_iload_n hC 3 3 rfl rfl dL_law_461 ?_
  refine G_iconst hC (v := 3) (by decide) dL_law_462 ?_
  refine G_iadd hC dL_law_463 ?_
  refine G_sld hC hX hbl hbA (vin hi h8 hL 3 (by decide)) dL_law_464 ?_
  refine G_cVi (st := []) hC _ 0 (by omega) (c_X10_type  l (by omega) e_tt e_text e_tbytes h465) (cwV 2 hC.hts gL_law_X10_type rfl rfl rfl (by decide +kernel) ⟨Nat.le_of_ble_eq_true rfl, Nat.le_of_ble_eq_true rfl⟩) e_tt rfl rfl (Nat.le_of_ble_eq_true rfl) (Nat.le_of_ble_eq_true rfl) (Nat.le_of_ble_eq_true rfl) rfl dL_law_465 (fun r465 en2 hw => ?_)
  obtain ⟨rfl, e_tt, e_text, e_tbytes, fr⟩ := hw
  have e_past := (fr 12 (by omega) (by omega) (by omega)).trans e_past
  have e_reader := (fr 83 (by omega) (by omega) (by omega)).trans e_reader
  have e_rowso := (fr 96 (by omega) (by omega) (by omega)).trans e_rowso
  have e_night := (fr 98 (by omega) (by omega) (by omega)).trans e_night
  have e_model := (fr 100 (by omega) (by omega) (by omega)).trans e_model
  have e_rnumarr := (fr 95 (by omega) (by omega) (by omega)).trans e_rnumarr
  have e_rallarr := (fr 97 (by omega) (by omega) (by omega)).trans e_rallarr
  have e_nmostarr := (fr 99 (by omega) (by omega) (by omega)).trans e_nmostarr
  have e_mwarr := (fr 101 (by omega) (by omega) (by omega)).trans e_mwarr
  have e_mnamesarr := (fr 102 (by omega) (by omega) (by omega)).trans e_mnamesarr
  have e_mkeptarr := (fr 103 (by omega) (by omega) (by omega)).trans e_mkeptarr
  have e_mtextarr := (fr 104 (by omega) (by omega) (by omega)).trans e_mtextarr
  have e_mrefusedarr := (fr 105 (by omega) (by omega) (by omega)).trans e_mrefusedarr
  have e_miwordarr := (fr 106 (by omega) (by omega) (by omega)).trans e_miwordarr
  have e_minamearr := (fr 107 (by omega) (by omega) (by omega)).trans e_minamearr
  have e_mnumberarr := (fr 108 (by omega) (by omega) (by omega)).trans e_mnumberarr
  have e_mleftarr := (fr 109 (by omega) (by omega) (by omega)).trans e_mleftarr
  have e_ringarr := (fr 13 (by omega) (by omega) (by omega)).trans e_ringarr
  have e_imgarr := (fr 58 (by omega) (by omega) (by omega)).trans e_imgarr
  have H_now := H_now.fr (fun j h1 h2 => fr j (by omega) (by omega) (by omega))
  have H_draft := H_draft.fr (fun j h1 h2 => fr j (by omega) (by omega) (by omega))
  have F_ring := fun i (hi : i < 4) => (F_ring i hi).fr (fun j h1 h2 => fr j (by omega) (by omega) (by omega))
  have F_imgs := fun i (hi : i < 2) => (F_imgs i hi).fr (fun j h1 h2 => fr j (by omega) (by omega) (by omega))
  refine G_aload_n hC 2 2 rfl rfl dL_law_468 ?_
  refine G_aload_n hC 0 0 rfl rfl dL_law_469 ?_
  refine G_iload_n hC 3 3 rfl rfl dL_law_470 ?_
  refine G_iconst hC (v := 1) (by decide) dL_law_471 ?_
  refine G_iadd hC dL_law_472 ?_
  refine G_sld hC hX hbl hbA (vin hi h8 hL 1 (by decide)) dL_law_473 ?_
  refine G_i2l hC dL_law_474 ?_
  refine G_bipush hC (v := 32) (by decide) dL_law_475 ?_
  refine G_lshl hC dL_law_477 ?_
  refine G_aload_n hC 0 0 rfl rfl dL_law_478 ?_
  refine G_iload_n hC 3 3 rfl rfl dL_law_479 ?_
  refine G_iconst hC (v := 2) (by decide) dL_law_480 ?_
  refine G_iadd hC dL_law_481 ?_
  refine G_sld hC hX hbl hbA (vin hi h8 hL 2 (by decide)) dL_law_482 ?_
  refine G_i2l hC dL_law_483 ?_
  refine G_ldc2 hC (v := (4294967295)) k13 dL_law_484 ?_
  refine G_land hC dL_law_487 ?_
  refine G_lor hC dL_law_488 ?_
  refine G_aload_n hC 0 0 rfl rfl dL_law_489 ?_
  refine G_iload_n hC 3 3 rfl rfl dL_law_490 ?_
  refine G_iconst hC (v := 3) (by decide) dL_law_491 ?_
  refine G_iadd hC dL_law_492 ?_
  refine G_sld hC hX hbl hbA (vin hi h8 hL 3 (by decide)) dL_law_493 ?_
  refine G_cVi (st := [.int q465.1]) hC _ 100 (by omega) (c_X11_type  l (by omega) e_model e_mtextarr e_mrefusedarr h494) (cwV 2 hC.hts gL_law_X11_type rfl rfl rfl (by decide +kernel) ⟨Nat.le_of_ble_eq_true rfl, Nat.le_of_ble_eq_true rfl⟩) e_model rfl rfl (Nat.le_of_ble_eq_true rfl) (Nat.le_of_ble_eq_true rfl) (Nat.le_of_ble_eq_true rfl) rfl dL_law_494 (fun r494 en3 hw => ?_)
  obtain ⟨rfl, e_model, e_mtextarr, e_mrefusedarr, fr⟩ := hw
  have e_tt := (fr 0 (by omega) (by omega) (by omega)).trans e_tt
  have e_past := (fr 12 (by omega) (by omega) (by omega)).trans e_past
  have e_text := (fr 81 (by omega) (by omega) (by omega)).trans e_text
  have e_reader := (fr 83 (by omega) (by omega) (by omega)).trans e_reader
  have e_rowso := (fr 96 (by omega) (by omega) (by omega)).trans e_rowso
  have e_night := (fr 98 (by omega) (by omega) (by omega)).trans e_night
  have e_tbytes := (fr 82 (by omega) (by omega) (by omega)).trans e_tbytes
  have e_rnumarr := (fr 95 (by omega) (by omega) (by omega)).trans e_rnumarr
  have e_rallarr := (fr 97 (by omega) (by omega) (by omega)).trans e_rallarr
  have e_nmostarr := (fr 99 (by omega) (by omega) (by omega)).trans e_nmostarr
  have e_mwarr := (fr 101 (by omega) (by omega) (by omega)).trans e_mwarr
  have e_mnamesarr := (fr 102 (by omega) (by omega) (by omega)).trans e_mnamesarr
  have e_mkeptarr := (fr 103 (by omega) (by omega) (by omega)).trans e_mkeptarr
  have e_miwordarr := (fr 106 (by omega) (by omega) (by omega)).trans e_miwordarr
  have e_minamearr := (fr 107 (by omega) (by omega) (by omega)).trans e_minamearr
  have e_mnumberarr := (fr 108 (by omega) (by omega) (by omega)).trans e_mnumberarr
  have e_mleftarr := (fr 109 (by omega) (by omega) (by omega)).trans e_mleftarr
  have e_ringarr := (fr 13 (by omega) (by omega) (by omega)).trans e_ringarr
  have e_imgarr := (fr 58 (by omega) (by omega) (by omega)).trans e_imgarr
  have H_now := H_now.fr (fun j h1 h2 => fr j (by omega) (by omega) (by omega))
  have H_draft := H_draft.fr (fun j h1 h2 => fr j (by omega) (by omega) (by omega))
  have F_ring := fun i (hi : i < 4) => (F_ring i hi).fr (fun j h1 h2 => fr j (by omega) (by omega) (by omega))
  have F_imgs := fun i (hi : i < 2) => (F_imgs i hi).fr (fun j h1 h2 => fr j (by omega) (by omega) (by omega))
  refine G_icmp_eq hC 1007 dL_law_497 (by decide) (fun _ => ?_) (fun z => absurd heq z)
  exact K _ _ _ _ _ _ _ _ _ _ _ _ _ _ _ _ _ _ _ _ _ _ _ _ _ _ _ _ _ _ _ _ _ _ _ _ _ _ _ _ _ _ _ _ _ _ _ _ _ _ _ _ ⟨e_tt, e_past, e_text, e_reader, e_rowso, e_night, e_model, e_tbytes, e_rnumarr, e_rallarr, e_nmostarr, e_mwarr, e_mnamesarr, e_mkeptarr, e_mtextarr, e_mrefusedarr, e_miwordarr, e_minamearr, e_mnumberarr, e_mleftarr, e_ringarr, e_imgarr, H_now, H_draft, F_ring, F_imgs⟩ hR2
set_option maxHeartbeats 4000000 in
set_option maxRecDepth 100000 in
theorem lc_clear {p : Program} {l : Launch} {e : Env} {s : State} {m : MethodId} {below : List Frame} {meth : Method} {c : Code} {D : va_G} {cs : Nat → ClassId} {sa : Nat → Nat} {ad : Nat → Nat} {b L : Nat} {xs : Nat → Int32} (hL : L ≤ 4096) (hX : va_X b L xs s s.heap) (hbl : b < s.heap.size) (hC : Ck p s m #[Value.ref b] c code 4 wsL_law RL D cs sa 110 ad (fun q => s.heap.size ≤ q)) {i : Nat} {x3 : Int32} (hi : x3 = nI i) (h8 : i + 8 ≤ L) {en1 : Nat → va_E} {keptImages : Int32} {fab : Int64} {fbe : Int64} {bads : Int32} {noes : Int32} {fulls : Int32} {now : HallV} {bl : Int32} {kp : Int32} {ring : Nat → HallV} {imgs : Nat → HallV} {tlen : Int32} {tby : Nat → Int32} {rkind : Int32} {rstart : Int32} {rbehind : Int32} {rname : Int64} {ritems : Int32} {rfault : Int32} {rrefused : Int32} {draft : HallV} {rnums : Nat → Int32} {rall : Nat → Int32} {rheld : Int32} {rsecs : Int32} {rhelp : Int32} {rna : Int32} {rout : Int32} {rmiss : Int64} {nmost : Nat → Int32} {nlearnt : Int32} {mw : Nat → Int32} {mnames : Nat → Int64} {mkept : Nat → Int32} {mtext : Nat → Int32} {mtexted : Int32} {mundo : Int32} {mabove : Int64} {mbelow : Int64} {mrefused : Nat → Int32} {miword : Nat → Int32} {miname : Nat → Int64} {mnumber : Nat → Int32} {mitems : Int32} {mat : Int32} {mfault : Int32} {mtakes : Int32} {mmisses : Int64} {mbest : Int64} {mleft : Nat → Int32} {mh : Int64} (hF : LFacts cs ad en1 keptImages fab fbe bads noes fulls now bl kp ring imgs tlen tby rkind rstart rbehind rname ritems rfault rrefused draft rnums rall rheld rsecs rhelp rna rout rmiss nmost nlearnt mw mnames mkept mtext mtexted mundo mabove mbelow mrefused miword miname mnumber mitems mat mfault mtakes mmisses mbest mleft mh) (hR : LRel keptImages fab fbe bads noes fulls now bl kp ring imgs tlen tby rkind rstart rbehind rname ritems rfault rrefused draft rnums rall rheld rsecs rhelp rna rout rmiss nmost nlearnt mw mnames mkept mtext mtexted mundo mabove mbelow mrefused miword miname mnumber mitems mat mfault mtakes mmisses mbest mleft mh) (K : ∀ (en2 : Nat → va_E) (keptImages : Int32) (fab : Int64) (fbe : Int64) (bads : Int32) (noes : Int32) (fulls : Int32) (now : HallV) (bl : Int32) (kp : Int32) (ring : Nat → HallV) (imgs : Nat → HallV) (tlen : Int32) (tby : Nat → Int32) (rkind : Int32) (rstart : Int32) (rbehind : Int32) (rname : Int64) (ritems : Int32) (rfault : Int32) (rrefused : Int32) (draft : HallV) (rnums : Nat → Int32) (rall : Nat → Int32) (rheld : Int32) (rsecs : Int32) (rhelp : Int32) (rna : Int32) (rout : Int32) (rmiss : Int64) (nmost : Nat → Int32) (nlearnt : Int32) (mw : Nat → Int32) (mnames : Nat → Int64) (mkept : Nat → Int32) (mtext : Nat → Int32) (mtexted : Int32) (mundo : Int32) (mabove : Int64) (mbelow : Int64) (mrefused : Nat → Int32) (miword : Nat → Int32) (miname : Nat → Int64) (mnumber : Nat → Int32) (mitems : Int32) (mat : Int32) (mfault : Int32) (mtakes : Int32) (mmisses : Int64) (mbest : Int64) (mleft : Nat → Int32) (mh : Int64), LFacts cs ad en2 keptImages fab fbe bads noes fulls now bl kp ring imgs tlen tby rkind rstart rbehind rname ritems rfault rrefused draft rnums rall rheld rsecs rhelp rna rout rmiss nmost nlearnt mw mnames mkept mtext mtexted mundo mabove mbelow mrefused miword miname mnumber mitems mat mfault mtakes mmisses mbest mleft mh → LRel keptImages fab fbe bads noes fulls now bl kp ring imgs tlen tby rkind rstart rbehind rname ritems rfault rrefused draft rnums rall rheld rsecs rhelp rna rout rmiss nmost nlearnt mw mnames mkept mtext mtexted mundo mabove mbelow mrefused miword miname mnumber mitems mat mfault mtakes mmisses mbest mleft mh → G p l e room_1 s m #[Value.ref b] below meth c D 110 ad (fun q => s.heap.size ≤ q) 4 110 6275 (lw_Z below #[Value.ref b] s) en2 1007 [(0, .ref b), (1, .ref (ad 0)), (2, .ref (ad 100)), (3, .int x3)] []) : G p l e room_1 s m #[Value.ref b] below meth c D 110 ad (fun q => s.heap.size ≤ q) 4 110 6275 (lw_Z below #[Value.ref b] s) en1 502 [(0, .ref b), (1, .ref (ad 0)), (2, .ref (ad 100)), (3, .int x3)] [] := by
  have hbA : ¬ (fun q => s.heap.size ≤ q) b := Nat.not_le.mpr hbl
  obtain ⟨e_tt, e_past, e_text, e_reader, e_rowso, e_night, e_model, e_tbytes, e_rnumarr, e_rallarr, e_nmostarr, e_mwarr, e_mnamesarr, e_mkeptarr, e_mtextarr, e_mrefusedarr, e_miwordarr, e_minamearr, e_mnumberarr, e_mleftarr, e_ringarr, e_imgarr, H_now, H_draft, F_ring, F_imgs⟩ := hF
  obtain ⟨q503, q507, h503, h507, heq, hR2⟩ := r_clear (tlen := tlen) (mtexted := mtexted) hR 
  refine G_aload_n hC 1 1 rfl rfl dL_law_502 ?_
  refine G_cVi (st := []) hC _ 0 (by omega) (c_X10_clear  l (by omega) e_tt e_text h503) (cwV 0 hC.hts gL_law_X10_clear rfl rfl rfl (by decide +kernel) ⟨Nat.le_of_ble_eq_true rfl, Nat.le_of_ble_eq_true rfl⟩) e_tt rfl rfl (Nat.le_of_ble_eq_true rfl) (Nat.le_of_ble_eq_true rfl) (Nat.le_of_ble_eq_true rfl) rfl dL_law_503 (fun r503 en2 hw => ?_)
  obtain ⟨rfl, e_text, fr⟩ := hw
  have e_tt := (fr 0 (by omega)).trans e_tt
  have e_past := (fr 12 (by omega)).trans e_past
  have e_reader := (fr 83 (by omega)).trans e_reader
  have e_rowso := (fr 96 (by omega)).trans e_rowso
  have e_night := (fr 98 (by omega)).trans e_night
  have e_model := (fr 100 (by omega)).trans e_model
  have e_tbytes := (fr 82 (by omega)).trans e_tbytes
  have e_rnumarr := (fr 95 (by omega)).trans e_rnumarr
  have e_rallarr := (fr 97 (by omega)).trans e_rallarr
  have e_nmostarr := (fr 99 (by omega)).trans e_nmostarr
  have e_mwarr := (fr 101 (by omega)).trans e_mwarr
  have e_mnamesarr := (fr 102 (by omega)).trans e_mnamesarr
  have e_mkeptarr := (fr 103 (by omega)).trans e_mkeptarr
  have e_mtextarr := (fr 104 (by omega)).trans e_mtextarr
  have e_mrefusedarr := (fr 105 (by omega)).trans e_mrefusedarr
  have e_miwordarr := (fr 106 (by omega)).trans e_miwordarr
  have e_minamearr := (fr 107 (by omega)).trans e_minamearr
  have e_mnumberarr := (fr 108 (by omega)).trans e_mnumberarr
  have e_mleftarr := (fr 109 (by omega)).trans e_mleftarr
  have e_ringarr := (fr 13 (by omega)).trans e_ringarr
  have e_imgarr := (fr 58 (by omega)).trans e_imgarr
  have H_now := H_now.fr (fun j h1 h2 => fr j (by omega))
  have H_draft := H_draft.fr (fun j h1 h2 => fr j (by omega))
  have F_ring := fun i (hi : i < 4) => (F_ring i hi).fr (fun j h1 h2 => fr j (by omega))
  have F_imgs := fun i (hi : i < 2) => (F_imgs i hi).fr (fun j h1 h2 => fr j (by omega))
  refine G_aload_n hC 2 2 rfl rfl dL_law_506 ?_
  refine G_cVi (st := [.int q503.1]) hC _ 100 (by omega) (c_X11_clear  l (by omega) e_model h507) (cwV 0 hC.hts gL_law_X11_clear rfl rfl rfl (by decide +kernel) ⟨Nat.le_of_ble_eq_true rfl, Nat.le_of_ble_eq_true rfl⟩) e_model rfl rfl (Nat.le_of_ble_eq_true rfl) (Nat.le_of_ble_eq_true rfl) (Nat.le_of_ble_eq_true rfl) rfl dL_law_507 (fun r507 en3 hw => ?_)
  obtain ⟨rfl, e_model, fr⟩ := hw
  have e_tt := (fr 0 (by omega)).trans e_tt
  have e_past := (fr 12 (by omega)).trans e_past
  have e_text := (fr 81 (by omega)).trans e_text
  have e_reader := (fr 83 (by omega)).trans e_reader
  have e_rowso := (fr 96 (by omega)).trans e_rowso
  have e_night := (fr 98 (by omega)).trans e_night
  have e_tbytes := (fr 82 (by omega)).trans e_tbytes
  have e_rnumarr := (fr 95 (by omega)).trans e_rnumarr
  have e_rallarr := (fr 97 (by omega)).trans e_rallarr
  have e_nmostarr := (fr 99 (by omega)).trans e_nmostarr
  have e_mwarr := (fr 101 (by omega)).trans e_mwarr
  have e_mnamesarr := (fr 102 (by omega)).trans e_mnamesarr
  have e_mkeptarr := (fr 103 (by omega)).trans e_mkeptarr
  have e_mtextarr := (fr 104 (by omega)).trans e_mtextarr
  have e_mrefusedarr := (fr 105 (by omega)).trans e_mrefusedarr
  have e_miwordarr := (fr 106 (by omega)).trans e_miwordarr
  have e_minamearr := (fr 107 (by omega)).trans e_minamearr
  have e_mnumberarr := (fr 108 (by omega)).trans e_mnumberarr
  have e_mleftarr := (fr 109 (by omega)).trans e_mleftarr
  have e_ringarr := (fr 13 (by omega)).trans e_ringarr
  have e_imgarr := (fr 58 (by omega)).trans e_imgarr
  have H_now := H_now.fr (fun j h1 h2 => fr j (by omega))
  have H_draft := H_draft.fr (fun j h1 h2 => fr j (by omega))
  have F_ring := fun i (hi : i < 4) => (F_ring i hi).fr (fun j h1 h2 => fr j (by omega))
  have F_imgs := fun i (hi : i < 2) => (F_imgs i hi).fr (fun j h1 h2 => fr j (by omega))
  refine G_icmp_eq hC 1007 dL_law_510 (by decide) (fun _ => ?_) (fun z => absurd heq z)
  exact K _ _ _ _ _ _ _ _ _ _ _ _ _ _ _ _ _ _ _ _ _ _ _ _ _ _ _ _ _ _ _ _ _ _ _ _ _ _ _ _ _ _ _ _ _ _ _ _ _ _ _ _ ⟨e_tt, e_past, e_text, e_reader, e_rowso, e_night, e_model, e_tbytes, e_rnumarr, e_rallarr, e_nmostarr, e_mwarr, e_mnamesarr, e_mkeptarr, e_mtextarr, e_mrefusedarr, e_miwordarr, e_minamearr, e_mnumberarr, e_mleftarr, e_ringarr, e_imgarr, H_now, H_draft, F_ring, F_imgs⟩ hR2
set_option maxHeartbeats 4000000 in
set_option maxRecDepth 100000 in
theorem lc_read {p : Program} {l : Launch} {e : Env} {s : State} {m : MethodId} {below : List Frame} {meth : Method} {c : Code} {D : va_G} {cs : Nat → ClassId} {sa : Nat → Nat} {ad : Nat → Nat} {b L : Nat} {xs : Nat → Int32} (hL : L ≤ 4096) (hX : va_X b L xs s s.heap) (hbl : b < s.heap.size) (hC : Ck p s m #[Value.ref b] c code 4 wsL_law RL D cs sa 110 ad (fun q => s.heap.size ≤ q)) {i : Nat} {x3 : Int32} (hi : x3 = nI i) (h8 : i + 8 ≤ L) {en1 : Nat → va_E} {keptImages : Int32} {fab : Int64} {fbe : Int64} {bads : Int32} {noes : Int32} {fulls : Int32} {now : HallV} {bl : Int32} {kp : Int32} {ring : Nat → HallV} {imgs : Nat → HallV} {tlen : Int32} {tby : Nat → Int32} {rkind : Int32} {rstart : Int32} {rbehind : Int32} {rname : Int64} {ritems : Int32} {rfault : Int32} {rrefused : Int32} {draft : HallV} {rnums : Nat → Int32} {rall : Nat → Int32} {rheld : Int32} {rsecs : Int32} {rhelp : Int32} {rna : Int32} {rout : Int32} {rmiss : Int64} {nmost : Nat → Int32} {nlearnt : Int32} {mw : Nat → Int32} {mnames : Nat → Int64} {mkept : Nat → Int32} {mtext : Nat → Int32} {mtexted : Int32} {mundo : Int32} {mabove : Int64} {mbelow : Int64} {mrefused : Nat → Int32} {miword : Nat → Int32} {miname : Nat → Int64} {mnumber : Nat → Int32} {mitems : Int32} {mat : Int32} {mfault : Int32} {mtakes : Int32} {mmisses : Int64} {mbest : Int64} {mleft : Nat → Int32} {mh : Int64} (hF : LFacts cs ad en1 keptImages fab fbe bads noes fulls now bl kp ring imgs tlen tby rkind rstart rbehind rname ritems rfault rrefused draft rnums rall rheld rsecs rhelp rna rout rmiss nmost nlearnt mw mnames mkept mtext mtexted mundo mabove mbelow mrefused miword miname mnumber mitems mat mfault mtakes mmisses mbest mleft mh) (hR : LRel keptImages fab fbe bads noes fulls now bl kp ring imgs tlen tby rkind rstart rbehind rname ritems rfault rrefused draft rnums rall rheld rsecs rhelp rna rout rmiss nmost nlearnt mw mnames mkept mtext mtexted mundo mabove mbelow mrefused miword miname mnumber mitems mat mfault mtakes mmisses mbest mleft mh) (K : ∀ (en2 : Nat → va_E) (keptImages : Int32) (fab : Int64) (fbe : Int64) (bads : Int32) (noes : Int32) (fulls : Int32) (now : HallV) (bl : Int32) (kp : Int32) (ring : Nat → HallV) (imgs : Nat → HallV) (tlen : Int32) (tby : Nat → Int32) (rkind : Int32) (rstart : Int32) (rbehind : Int32) (rname : Int64) (ritems : Int32) (rfault : Int32) (rrefused : Int32) (draft : HallV) (rnums : Nat → Int32) (rall : Nat → Int32) (rheld : Int32) (rsecs : Int32) (rhelp : Int32) (rna : Int32) (rout : Int32) (rmiss : Int64) (nmost : Nat → Int32) (nlearnt : Int32) (mw : Nat → Int32) (mnames : Nat → Int64) (mkept : Nat → Int32) (mtext : Nat → Int32) (mtexted : Int32) (mundo : Int32) (mabove : Int64) (mbelow : Int64) (mrefused : Nat → Int32) (miword : Nat → Int32) (miname : Nat → Int64) (mnumber : Nat → Int32) (mitems : Int32) (mat : Int32) (mfault : Int32) (mtakes : Int32) (mmisses : Int64) (mbest : Int64) (mleft : Nat → Int32) (mh : Int64), LFacts cs ad en2 keptImages fab fbe bads noes fulls now bl kp ring imgs tlen tby rkind rstart rbehind rname ritems rfault rrefused draft rnums rall rheld rsecs rhelp rna rout rmiss nmost nlearnt mw mnames mkept mtext mtexted mundo mabove mbelow mrefused miword miname mnumber mitems mat mfault mtakes mmisses mbest mleft mh → LRel keptImages fab fbe bads noes fulls now bl kp ring imgs tlen tby rkind rstart rbehind rname ritems rfault rrefused draft rnums rall rheld rsecs rhelp rna rout rmiss nmost nlearnt mw mnames mkept mtext mtexted mundo mabove mbelow mrefused miword miname mnumber mitems mat mfault mtakes mmisses mbest mleft mh → G p l e room_1 s m #[Value.ref b] below meth c D 110 ad (fun q => s.heap.size ≤ q) 4 110 6275 (lw_Z below #[Value.ref b] s) en2 1007 [(0, .ref b), (1, .ref (ad 0)), (2, .ref (ad 100)), (3, .int x3)] []) : G p l e room_1 s m #[Value.ref b] below meth c D 110 ad (fun q => s.heap.size ≤ q) 4 110 6275 (lw_Z below #[Value.ref b] s) en1 515 [(0, .ref b), (1, .ref (ad 0)), (2, .ref (ad 100)), (3, .int x3)] [] := by
  have hbA : ¬ (fun q => s.heap.size ≤ q) b := Nat.not_le.mpr hbl
  obtain ⟨e_tt, e_past, e_text, e_reader, e_rowso, e_night, e_model, e_tbytes, e_rnumarr, e_rallarr, e_nmostarr, e_mwarr, e_mnamesarr, e_mkeptarr, e_mtextarr, e_mrefusedarr, e_miwordarr, e_minamearr, e_mnumberarr, e_mleftarr, e_ringarr, e_imgarr, H_now, H_draft, F_ring, F_imgs⟩ := hF
  obtain ⟨q516, q520, h516, h520, heq, hR2⟩ := r_read (now := now) (kp := kp) (tlen := tlen) (tby := tby) (rkind := rkind) (rstart := rstart) (rbehind := rbehind) (rname := rname) (ritems := ritems) (rfault := rfault) (rrefused := rrefused) (draft := draft) (rnums := rnums) (mw := mw) (mnames := mnames) (mtext := mtext) (mtexted := mtexted) (mundo := mundo) (miword := miword) (miname := miname) (mnumber := mnumber) (mitems := mitems) (mat := mat) (mfault := mfault) hR 
  refine G_aload_n hC 1 1 rfl rfl dL_law_515 ?_
  refine G_cVi (st := []) hC _ 0 (by omega) (c_X10_read  l (by omega) e_tt e_past e_text e_reader e_tbytes e_rnumarr H_now H_draft h516) (cwV 0 hC.hts gL_law_X10_read rfl rfl rfl (by decide +kernel) ⟨Nat.le_of_ble_eq_true rfl, Nat.le_of_ble_eq_true rfl⟩) e_tt rfl rfl (Nat.le_of_ble_eq_true rfl) (Nat.le_of_ble_eq_true rfl) (Nat.le_of_ble_eq_true rfl) rfl dL_law_516 (fun r516 en2 hw => ?_)
  obtain ⟨rfl, e_past, e_reader, e_rnumarr, H_now, H_draft, fr⟩ := hw
  have e_tt := (fr 0 (by omega) (by omega) (by omega) (by omega) (by omega)).trans e_tt
  have e_text := (fr 81 (by omega) (by omega) (by omega) (by omega) (by omega)).trans e_text
  have e_rowso := (fr 96 (by omega) (by omega) (by omega) (by omega) (by omega)).trans e_rowso
  have e_night := (fr 98 (by omega) (by omega) (by omega) (by omega) (by omega)).trans e_night
  have e_model := (fr 100 (by omega) (by omega) (by omega) (by omega) (by omega)).trans e_model
  have e_tbytes := (fr 82 (by omega) (by omega) (by omega) (by omega) (by omega)).trans e_tbytes
  have e_rallarr := (fr 97 (by omega) (by omega) (by omega) (by omega) (by omega)).trans e_rallarr
  have e_nmostarr := (fr 99 (by omega) (by omega) (by omega) (by omega) (by omega)).trans e_nmostarr
  have e_mwarr := (fr 101 (by omega) (by omega) (by omega) (by omega) (by omega)).trans e_mwarr
  have e_mnamesarr := (fr 102 (by omega) (by omega) (by omega) (by omega) (by omega)).trans e_mnamesarr
  have e_mkeptarr := (fr 103 (by omega) (by omega) (by omega) (by omega) (by omega)).trans e_mkeptarr
  have e_mtextarr := (fr 104 (by omega) (by omega) (by omega) (by omega) (by omega)).trans e_mtextarr
  have e_mrefusedarr := (fr 105 (by omega) (by omega) (by omega) (by omega) (by omega)).trans e_mrefusedarr
  have e_miwordarr := (fr 106 (by omega) (by omega) (by omega) (by omega) (by omega)).trans e_miwordarr
  have e_minamearr := (fr 107 (by omega) (by omega) (by omega) (by omega) (by omega)).trans e_minamearr
  have e_mnumberarr := (fr 108 (by omega) (by omega) (by omega) (by omega) (by omega)).trans e_mnumberarr
  have e_mleftarr := (fr 109 (by omega) (by omega) (by omega) (by omega) (by omega)).trans e_mleftarr
  have e_ringarr := (fr 13 (by omega) (by omega) (by omega) (by omega) (by omega)).trans e_ringarr
  have e_imgarr := (fr 58 (by omega) (by omega) (by omega) (by omega) (by omega)).trans e_imgarr
  have F_ring := fun i (hi : i < 4) => (F_ring i hi).fr (fun j h1 h2 => fr j (by omega) (by omega) (by omega) (by omega) (by omega))
  have F_imgs := fun i (hi : i < 2) => (F_imgs i hi).fr (fun j h1 h2 => fr j (by omega) (by omega) (by omega) (by omega) (by omega))
  refine G_aload_n hC 2 2 rfl rfl dL_law_519 ?_
  refine G_cVi (st := [.int q516.1]) hC _ 100 (by omega) (c_X11_read  l (by omega) e_model e_mwarr e_mnamesarr e_mtextarr e_miwordarr e_minamearr e_mnumberarr h520) (cwV 0 hC.hts gL_law_X11_read rfl rfl rfl (by decide +kernel) ⟨Nat.le_of_ble_eq_true rfl, Nat.le_of_ble_eq_true rfl⟩) e_model rfl rfl (Nat.le_of_ble_eq_true rfl) (Nat.le_of_ble_eq_true rfl) (Nat.le_of_ble_eq_true rfl) rfl dL_law_520 (fun r520 en3 hw => ?_)
  obtain ⟨rfl, e_model, e_mwarr, e_mnamesarr, e_miwordarr, e_minamearr, e_mnumberarr, fr⟩ := hw
  have e_tt := (fr 0 (by omega) (by omega) (by omega) (by omega) (by omega) (by omega)).trans e_tt
  have e_past := (fr 12 (by omega) (by omega) (by omega) (by omega) (by omega) (by omega)).trans e_past
  have e_text := (fr 81 (by omega) (by omega) (by omega) (by omega) (by omega) (by omega)).trans e_text
  have e_reader := (fr 83 (by omega) (by omega) (by omega) (by omega) (by omega) (by omega)).trans e_reader
  have e_rowso := (fr 96 (by omega) (by omega) (by omega) (by omega) (by omega) (by omega)).trans e_rowso
  have e_night := (fr 98 (by omega) (by omega) (by omega) (by omega) (by omega) (by omega)).trans e_night
  have e_tbytes := (fr 82 (by omega) (by omega) (by omega) (by omega) (by omega) (by omega)).trans e_tbytes
  have e_rnumarr := (fr 95 (by omega) (by omega) (by omega) (by omega) (by omega) (by omega)).trans e_rnumarr
  have e_rallarr := (fr 97 (by omega) (by omega) (by omega) (by omega) (by omega) (by omega)).trans e_rallarr
  have e_nmostarr := (fr 99 (by omega) (by omega) (by omega) (by omega) (by omega) (by omega)).trans e_nmostarr
  have e_mkeptarr := (fr 103 (by omega) (by omega) (by omega) (by omega) (by omega) (by omega)).trans e_mkeptarr
  have e_mtextarr := (fr 104 (by omega) (by omega) (by omega) (by omega) (by omega) (by omega)).trans e_mtextarr
  have e_mrefusedarr := (fr 105 (by omega) (by omega) (by omega) (by omega) (by omega) (by omega)).trans e_mrefusedarr
  have e_mleftarr := (fr 109 (by omega) (by omega) (by omega) (by omega) (by omega) (by omega)).trans e_mleftarr
  have e_ringarr := (fr 13 (by omega) (by omega) (by omega) (by omega) (by omega) (by omega)).trans e_ringarr
  have e_imgarr := (fr 58 (by omega) (by omega) (by omega) (by omega) (by omega) (by omega)).trans e_imgarr
  have H_now := H_now.fr (fun j h1 h2 => fr j (by omega) (by omega) (by omega) (by omega) (by omega) (by omega))
  have H_draft := H_draft.fr (fun j h1 h2 => fr j (by omega) (by omega) (by omega) (by omega) (by omega) (by omega))
  have F_ring := fun i (hi : i < 4) => (F_ring i hi).fr (fun j h1 h2 => fr j (by omega) (by omega) (by omega) (by omega) (by omega) (by omega))
  have F_imgs := fun i (hi : i < 2) => (F_imgs i hi).fr (fun j h1 h2 => fr j (by omega) (by omega) (by omega) (by omega) (by omega) (by omega))
  refine G_icmp_eq hC 1007 dL_law_523 (by decide) (fun _ => ?_) (fun z => absurd heq z)
  exact K _ _ _ _ _ _ _ _ _ _ _ _ _ _ _ _ _ _ _ _ _ _ _ _ _ _ _ _ _ _ _ _ _ _ _ _ _ _ _ _ _ _ _ _ _ _ _ _ _ _ _ _ ⟨e_tt, e_past, e_text, e_reader, e_rowso, e_night, e_model, e_tbytes, e_rnumarr, e_rallarr, e_nmostarr, e_mwarr, e_mnamesarr, e_mkeptarr, e_mtextarr, e_mrefusedarr, e_miwordarr, e_minamearr, e_mnumberarr, e_mleftarr, e_ringarr, e_imgarr, H_now, H_draft, F_ring, F_imgs⟩ hR2
set_option maxHeartbeats 4000000 in
set_option maxRecDepth 100000 in
theorem lc_comes {p : Program} {l : Launch} {e : Env} {s : State} {m : MethodId} {below : List Frame} {meth : Method} {c : Code} {D : va_G} {cs : Nat → ClassId} {sa : Nat → Nat} {ad : Nat → Nat} {b L : Nat} {xs : Nat → Int32} (hL : L ≤ 4096) (hX : va_X b L xs s s.heap) (hbl : b < s.heap.size) (hC : Ck p s m #[Value.ref b] c code 4 wsL_law RL D cs sa 110 ad (fun q => s.heap.size ≤ q)) {i : Nat} {x3 : Int32} (hi : x3 = nI i) (h8 : i + 8 ≤ L) {en1 : Nat → va_E} {keptImages : Int32} {fab : Int64} {fbe : Int64} {bads : Int32} {noes : Int32} {fulls : Int32} {now : HallV} {bl : Int32} {kp : Int32} {ring : Nat → HallV} {imgs : Nat → HallV} {tlen : Int32} {tby : Nat → Int32} {rkind : Int32} {rstart : Int32} {rbehind : Int32} {rname : Int64} {ritems : Int32} {rfault : Int32} {rrefused : Int32} {draft : HallV} {rnums : Nat → Int32} {rall : Nat → Int32} {rheld : Int32} {rsecs : Int32} {rhelp : Int32} {rna : Int32} {rout : Int32} {rmiss : Int64} {nmost : Nat → Int32} {nlearnt : Int32} {mw : Nat → Int32} {mnames : Nat → Int64} {mkept : Nat → Int32} {mtext : Nat → Int32} {mtexted : Int32} {mundo : Int32} {mabove : Int64} {mbelow : Int64} {mrefused : Nat → Int32} {miword : Nat → Int32} {miname : Nat → Int64} {mnumber : Nat → Int32} {mitems : Int32} {mat : Int32} {mfault : Int32} {mtakes : Int32} {mmisses : Int64} {mbest : Int64} {mleft : Nat → Int32} {mh : Int64} (hF : LFacts cs ad en1 keptImages fab fbe bads noes fulls now bl kp ring imgs tlen tby rkind rstart rbehind rname ritems rfault rrefused draft rnums rall rheld rsecs rhelp rna rout rmiss nmost nlearnt mw mnames mkept mtext mtexted mundo mabove mbelow mrefused miword miname mnumber mitems mat mfault mtakes mmisses mbest mleft mh) (hR : LRel keptImages fab fbe bads noes fulls now bl kp ring imgs tlen tby rkind rstart rbehind rname ritems rfault rrefused draft rnums rall rheld rsecs rhelp rna rout rmiss nmost nlearnt mw mnames mkept mtext mtexted mundo mabove mbelow mrefused miword miname mnumber mitems mat mfault mtakes mmisses mbest mleft mh) (K : ∀ (en2 : Nat → va_E) (keptImages : Int32) (fab : Int64) (fbe : Int64) (bads : Int32) (noes : Int32) (fulls : Int32) (now : HallV) (bl : Int32) (kp : Int32) (ring : Nat → HallV) (imgs : Nat → HallV) (tlen : Int32) (tby : Nat → Int32) (rkind : Int32) (rstart : Int32) (rbehind : Int32) (rname : Int64) (ritems : Int32) (rfault : Int32) (rrefused : Int32) (draft : HallV) (rnums : Nat → Int32) (rall : Nat → Int32) (rheld : Int32) (rsecs : Int32) (rhelp : Int32) (rna : Int32) (rout : Int32) (rmiss : Int64) (nmost : Nat → Int32) (nlearnt : Int32) (mw : Nat → Int32) (mnames : Nat → Int64) (mkept : Nat → Int32) (mtext : Nat → Int32) (mtexted : Int32) (mundo : Int32) (mabove : Int64) (mbelow : Int64) (mrefused : Nat → Int32) (miword : Nat → Int32) (miname : Nat → Int64) (mnumber : Nat → Int32) (mitems : Int32) (mat : Int32) (mfault : Int32) (mtakes : Int32) (mmisses : Int64) (mbest : Int64) (mleft : Nat → Int32) (mh : Int64), LFacts cs ad en2 keptImages fab fbe bads noes fulls now bl kp ring imgs tlen tby rkind rstart rbehind rname ritems rfault rrefused draft rnums rall rheld rsecs rhelp rna rout rmiss nmost nlearnt mw mnames mkept mtext mtexted mundo mabove mbelow mrefused miword miname mnumber mitems mat mfault mtakes mmisses mbest mleft mh → LRel keptImages fab fbe bads noes fulls now bl kp ring imgs tlen tby rkind rstart rbehind rname ritems rfault rrefused draft rnums rall rheld rsecs rhelp rna rout rmiss nmost nlearnt mw mnames mkept mtext mtexted mundo mabove mbelow mrefused miword miname mnumber mitems mat mfault mtakes mmisses mbest mleft mh → G p l e room_1 s m #[Value.ref b] below meth c D 110 ad (fun q => s.heap.size ≤ q) 4 110 6275 (lw_Z below #[Value.ref b] s) en2 1007 [(0, .ref b), (1, .ref (ad 0)), (2, .ref (ad 100)), (3, .int x3)] []) : G p l e room_1 s m #[Value.ref b] below meth c D 110 ad (fun q => s.heap.size ≤ q) 4 110 6275 (lw_Z below #[Value.ref b] s) en1 528 [(0, .ref b), (1, .ref (ad 0)), (2, .ref (ad 100)), (3, .int x3)] [] := by
  have hbA : ¬ (fun q => s.heap.size ≤ q) b := Nat.not_le.mpr hbl
  obtain ⟨e_tt, e_past, e_text, e_reader, e_rowso, e_night, e_model, e_tbytes, e_rnumarr, e_rallarr, e_nmostarr, e_mwarr, e_mnamesarr, e_mkeptarr, e_mtextarr, e_mrefusedarr, e_miwordarr, e_minamearr, e_mnumberarr, e_mleftarr, e_ringarr, e_imgarr, H_now, H_draft, F_ring, F_imgs⟩ := hF
  obtain ⟨q539, q553, h539, h553, heq, hR2⟩ := r_comes (fab := fab) (fbe := fbe) (bads := bads) (noes := noes) (fulls := fulls) (now := now) (rheld := rheld) (rsecs := rsecs) (rhelp := rhelp) (rna := rna) (rout := rout) (rmiss := rmiss) (mw := mw) (mabove := mabove) (mbelow := mbelow) (mrefused := mrefused) (mtakes := mtakes) (mmisses := mmisses) hR (xs (x3 + (1 : Int32)).toNatClampNeg) (xs (x3 + (2 : Int32)).toNatClampNeg)
  refine G_aload_n hC 1 1 rfl rfl dL_law_528 ?_
  refine G_aload_n hC 0 0 rfl rfl dL_law_529 ?_
  refine G_iload_n hC 3 3 rfl rfl dL_law_530 ?_
  refine G_iconst hC (v := 1) (by decide) dL_law_531 ?_
  refine G_iadd hC dL_law_532 ?_
  refine G_sld hC hX hbl hbA (vin hi h8 hL 1 (by decide)) dL_law_533 ?_
  refine G_aload_n hC 0 0 rfl rfl dL_law_534 ?_
  refine G_iload_n hC 3 3 rfl rfl dL_law_535 ?_
  refine G_iconst hC (v := 2) (by decide) dL_law_536 ?_
  refine G_iadd hC dL_law_537 ?_
  refine G_sld hC hX hbl hbA (vin hi h8 hL 2 (by decide)) dL_law_538 ?_
  refine G_cVi (st := []) hC _ 0 (by omega) (c_X10_comes  l (by omega) e_tt e_rowso H_now h539) (cwV 2 hC.hts gL_law_X10_comes rfl rfl rfl (by decide +kernel) ⟨Nat.le_of_ble_eq_true rfl, Nat.le_of_ble_eq_true rfl⟩) e_tt rfl rfl (Nat.le_of_ble_eq_true rfl) (Nat.le_of_ble_eq_true rfl) (Nat.le_of_ble_eq_true rfl) rfl dL_law_539 (fun r539 en2 hw => ?_)
  obtain ⟨rfl, e_tt, e_rowso, fr⟩ := hw
  have e_past := (fr 12 (by omega) (by omega)).trans e_past
  have e_text := (fr 81 (by omega) (by omega)).trans e_text
  have e_reader := (fr 83 (by omega) (by omega)).trans e_reader
  have e_night := (fr 98 (by omega) (by omega)).trans e_night
  have e_model := (fr 100 (by omega) (by omega)).trans e_model
  have e_tbytes := (fr 82 (by omega) (by omega)).trans e_tbytes
  have e_rnumarr := (fr 95 (by omega) (by omega)).trans e_rnumarr
  have e_rallarr := (fr 97 (by omega) (by omega)).trans e_rallarr
  have e_nmostarr := (fr 99 (by omega) (by omega)).trans e_nmostarr
  have e_mwarr := (fr 101 (by omega) (by omega)).trans e_mwarr
  have e_mnamesarr := (fr 102 (by omega) (by omega)).trans e_mnamesarr
  have e_mkeptarr := (fr 103 (by omega) (by omega)).trans e_mkeptarr
  have e_mtextarr := (fr 104 (by omega) (by omega)).trans e_mtextarr
  have e_mrefusedarr := (fr 105 (by omega) (by omega)).trans e_mrefusedarr
  have e_miwordarr := (fr 106 (by omega) (by omega)).trans e_miwordarr
  have e_minamearr := (fr 107 (by omega) (by omega)).trans e_minamearr
  have e_mnumberarr := (fr 108 (by omega) (by omega)).trans e_mnumberarr
  have e_mleftarr := (fr 109 (by omega) (by omega)).trans e_mleftarr
  have e_ringarr := (fr 13 (by omega) (by omega)).trans e_ringarr
  have e_imgarr := (fr 58 (by omega) (by omega)).trans e_imgarr
  have H_now := H_now.fr (fun j h1 h2 => fr j (by omega) (by omega))
  have H_draft := H_draft.fr (fun j h1 h2 => fr j (by omega) (by omega))
  have F_ring := fun i (hi : i < 4) => (F_ring i hi).fr (fun j h1 h2 => fr j (by omega) (by omega))
  have F_imgs := fun i (hi : i < 2) => (F_imgs i hi).fr (fun j h1 h2 => fr j (by omega) (by omega))
  refine G_aload_n hC 2 2 rfl rfl dL_law_542 ?_
  refine G_aload_n hC 0 0 rfl rfl dL_law_543 ?_
  refine G_iload_n hC 3 3 rfl rfl dL_law_544 ?_
  refine G_iconst hC (v := 1) (by decide) dL_law_545 ?_
  refine G_iadd hC dL_law_546 ?_
  refine G_sld hC hX hbl hbA (vin hi h8 hL 1 (by decide)) dL_law_547 ?_
  refine G_aload_n hC 0 0 rfl rfl dL_law_548 ?_
  refine G_iload_n hC 3 3 rfl rfl dL_law_549 ?_
  refine G_iconst hC (v := 2) (by decide) dL_law_550 ?_
  refine G_iadd hC dL_law_551 ?_
  refine G_sld hC hX hbl hbA (vin hi h8 hL 2 (by decide)) dL_law_552 ?_
  refine G_cVi (st := [.int q539.1]) hC _ 100 (by omega) (c_X11_comes  l (by omega) e_model e_mwarr e_mrefusedarr h553) (cwV 2 hC.hts gL_law_X11_comes rfl rfl rfl (by decide +kernel) ⟨Nat.le_of_ble_eq_true rfl, Nat.le_of_ble_eq_true rfl⟩) e_model rfl rfl (Nat.le_of_ble_eq_true rfl) (Nat.le_of_ble_eq_true rfl) (Nat.le_of_ble_eq_true rfl) rfl dL_law_553 (fun r553 en3 hw => ?_)
  obtain ⟨rfl, e_model, e_mrefusedarr, fr⟩ := hw
  have e_tt := (fr 0 (by omega) (by omega)).trans e_tt
  have e_past := (fr 12 (by omega) (by omega)).trans e_past
  have e_text := (fr 81 (by omega) (by omega)).trans e_text
  have e_reader := (fr 83 (by omega) (by omega)).trans e_reader
  have e_rowso := (fr 96 (by omega) (by omega)).trans e_rowso
  have e_night := (fr 98 (by omega) (by omega)).trans e_night
  have e_tbytes := (fr 82 (by omega) (by omega)).trans e_tbytes
  have e_rnumarr := (fr 95 (by omega) (by omega)).trans e_rnumarr
  have e_rallarr := (fr 97 (by omega) (by omega)).trans e_rallarr
  have e_nmostarr := (fr 99 (by omega) (by omega)).trans e_nmostarr
  have e_mwarr := (fr 101 (by omega) (by omega)).trans e_mwarr
  have e_mnamesarr := (fr 102 (by omega) (by omega)).trans e_mnamesarr
  have e_mkeptarr := (fr 103 (by omega) (by omega)).trans e_mkeptarr
  have e_mtextarr := (fr 104 (by omega) (by omega)).trans e_mtextarr
  have e_miwordarr := (fr 106 (by omega) (by omega)).trans e_miwordarr
  have e_minamearr := (fr 107 (by omega) (by omega)).trans e_minamearr
  have e_mnumberarr := (fr 108 (by omega) (by omega)).trans e_mnumberarr
  have e_mleftarr := (fr 109 (by omega) (by omega)).trans e_mleftarr
  have e_ringarr := (fr 13 (by omega) (by omega)).trans e_ringarr
  have e_imgarr := (fr 58 (by omega) (by omega)).trans e_imgarr
  have H_now := H_now.fr (fun j h1 h2 => fr j (by omega) (by omega))
  have H_draft := H_draft.fr (fun j h1 h2 => fr j (by omega) (by omega))
  have F_ring := fun i (hi : i < 4) => (F_ring i hi).fr (fun j h1 h2 => fr j (by omega) (by omega))
  have F_imgs := fun i (hi : i < 2) => (F_imgs i hi).fr (fun j h1 h2 => fr j (by omega) (by omega))
  refine G_icmp_eq hC 1007 dL_law_556 (by decide) (fun _ => ?_) (fun z => absurd heq z)
  exact K _ _ _ _ _ _ _ _ _ _ _ _ _ _ _ _ _ _ _ _ _ _ _ _ _ _ _ _ _ _ _ _ _ _ _ _ _ _ _ _ _ _ _ _ _ _ _ _ _ _ _ _ ⟨e_tt, e_past, e_text, e_reader, e_rowso, e_night, e_model, e_tbytes, e_rnumarr, e_rallarr, e_nmostarr, e_mwarr, e_mnamesarr, e_mkeptarr, e_mtextarr, e_mrefusedarr, e_miwordarr, e_minamearr, e_mnumberarr, e_mleftarr, e_ringarr, e_imgarr, H_now, H_draft, F_ring, F_imgs⟩ hR2
set_option maxHeartbeats 4000000 in
set_option maxRecDepth 100000 in
theorem lc_best {p : Program} {l : Launch} {e : Env} {s : State} {m : MethodId} {below : List Frame} {meth : Method} {c : Code} {D : va_G} {cs : Nat → ClassId} {sa : Nat → Nat} {ad : Nat → Nat} {b L : Nat} {xs : Nat → Int32} (hL : L ≤ 4096) (hX : va_X b L xs s s.heap) (hbl : b < s.heap.size) (hC : Ck p s m #[Value.ref b] c code 4 wsL_law RL D cs sa 110 ad (fun q => s.heap.size ≤ q)) {i : Nat} {x3 : Int32} (hi : x3 = nI i) (h8 : i + 8 ≤ L) {en1 : Nat → va_E} {keptImages : Int32} {fab : Int64} {fbe : Int64} {bads : Int32} {noes : Int32} {fulls : Int32} {now : HallV} {bl : Int32} {kp : Int32} {ring : Nat → HallV} {imgs : Nat → HallV} {tlen : Int32} {tby : Nat → Int32} {rkind : Int32} {rstart : Int32} {rbehind : Int32} {rname : Int64} {ritems : Int32} {rfault : Int32} {rrefused : Int32} {draft : HallV} {rnums : Nat → Int32} {rall : Nat → Int32} {rheld : Int32} {rsecs : Int32} {rhelp : Int32} {rna : Int32} {rout : Int32} {rmiss : Int64} {nmost : Nat → Int32} {nlearnt : Int32} {mw : Nat → Int32} {mnames : Nat → Int64} {mkept : Nat → Int32} {mtext : Nat → Int32} {mtexted : Int32} {mundo : Int32} {mabove : Int64} {mbelow : Int64} {mrefused : Nat → Int32} {miword : Nat → Int32} {miname : Nat → Int64} {mnumber : Nat → Int32} {mitems : Int32} {mat : Int32} {mfault : Int32} {mtakes : Int32} {mmisses : Int64} {mbest : Int64} {mleft : Nat → Int32} {mh : Int64} (hF : LFacts cs ad en1 keptImages fab fbe bads noes fulls now bl kp ring imgs tlen tby rkind rstart rbehind rname ritems rfault rrefused draft rnums rall rheld rsecs rhelp rna rout rmiss nmost nlearnt mw mnames mkept mtext mtexted mundo mabove mbelow mrefused miword miname mnumber mitems mat mfault mtakes mmisses mbest mleft mh) (hR : LRel keptImages fab fbe bads noes fulls now bl kp ring imgs tlen tby rkind rstart rbehind rname ritems rfault rrefused draft rnums rall rheld rsecs rhelp rna rout rmiss nmost nlearnt mw mnames mkept mtext mtexted mundo mabove mbelow mrefused miword miname mnumber mitems mat mfault mtakes mmisses mbest mleft mh) (K : ∀ (en2 : Nat → va_E) (keptImages : Int32) (fab : Int64) (fbe : Int64) (bads : Int32) (noes : Int32) (fulls : Int32) (now : HallV) (bl : Int32) (kp : Int32) (ring : Nat → HallV) (imgs : Nat → HallV) (tlen : Int32) (tby : Nat → Int32) (rkind : Int32) (rstart : Int32) (rbehind : Int32) (rname : Int64) (ritems : Int32) (rfault : Int32) (rrefused : Int32) (draft : HallV) (rnums : Nat → Int32) (rall : Nat → Int32) (rheld : Int32) (rsecs : Int32) (rhelp : Int32) (rna : Int32) (rout : Int32) (rmiss : Int64) (nmost : Nat → Int32) (nlearnt : Int32) (mw : Nat → Int32) (mnames : Nat → Int64) (mkept : Nat → Int32) (mtext : Nat → Int32) (mtexted : Int32) (mundo : Int32) (mabove : Int64) (mbelow : Int64) (mrefused : Nat → Int32) (miword : Nat → Int32) (miname : Nat → Int64) (mnumber : Nat → Int32) (mitems : Int32) (mat : Int32) (mfault : Int32) (mtakes : Int32) (mmisses : Int64) (mbest : Int64) (mleft : Nat → Int32) (mh : Int64), LFacts cs ad en2 keptImages fab fbe bads noes fulls now bl kp ring imgs tlen tby rkind rstart rbehind rname ritems rfault rrefused draft rnums rall rheld rsecs rhelp rna rout rmiss nmost nlearnt mw mnames mkept mtext mtexted mundo mabove mbelow mrefused miword miname mnumber mitems mat mfault mtakes mmisses mbest mleft mh → LRel keptImages fab fbe bads noes fulls now bl kp ring imgs tlen tby rkind rstart rbehind rname ritems rfault rrefused draft rnums rall rheld rsecs rhelp rna rout rmiss nmost nlearnt mw mnames mkept mtext mtexted mundo mabove mbelow mrefused miword miname mnumber mitems mat mfault mtakes mmisses mbest mleft mh → G p l e room_1 s m #[Value.ref b] below meth c D 110 ad (fun q => s.heap.size ≤ q) 4 110 6275 (lw_Z below #[Value.ref b] s) en2 1007 [(0, .ref b), (1, .ref (ad 0)), (2, .ref (ad 100)), (3, .int x3)] []) : G p l e room_1 s m #[Value.ref b] below meth c D 110 ad (fun q => s.heap.size ≤ q) 4 110 6275 (lw_Z below #[Value.ref b] s) en1 561 [(0, .ref b), (1, .ref (ad 0)), (2, .ref (ad 100)), (3, .int x3)] [] := by
  have hbA : ¬ (fun q => s.heap.size ≤ q) b := Nat.not_le.mpr hbl
  obtain ⟨e_tt, e_past, e_text, e_reader, e_rowso, e_night, e_model, e_tbytes, e_rnumarr, e_rallarr, e_nmostarr, e_mwarr, e_mnamesarr, e_mkeptarr, e_mtextarr, e_mrefusedarr, e_miwordarr, e_minamearr, e_mnumberarr, e_mleftarr, e_ringarr, e_imgarr, H_now, H_draft, F_ring, F_imgs⟩ := hF
  obtain ⟨q572, q586, h572, h586, heq, hR2⟩ := r_best (fab := fab) (fbe := fbe) (bads := bads) (noes := noes) (fulls := fulls) (now := now) (rall := rall) (rheld := rheld) (rsecs := rsecs) (rhelp := rhelp) (rna := rna) (rout := rout) (rmiss := rmiss) (mw := mw) (mabove := mabove) (mbelow := mbelow) (mrefused := mrefused) (mtakes := mtakes) (mmisses := mmisses) (mbest := mbest) hR (xs (x3 + (1 : Int32)).toNatClampNeg) (xs (x3 + (2 : Int32)).toNatClampNeg)
  refine G_aload_n hC 1 1 rfl rfl dL_law_561 ?_
  refine G_aload_n hC 0 0 rfl rfl dL_law_562 ?_
  refine G_iload_n hC 3 3 rfl rfl dL_law_563 ?_
  refine G_iconst hC (v := 1) (by decide) dL_law_564 ?_
  refine G_iadd hC dL_law_565 ?_
  refine G_sld hC hX hbl hbA (vin hi h8 hL 1 (by decide)) dL_law_566 ?_
  refine G_aload_n hC 0 0 rfl rfl dL_law_567 ?_
  refine G_iload_n hC 3 3 rfl rfl dL_law_568 ?_
  refine G_iconst hC (v := 2) (by decide) dL_law_569 ?_
  refine G_iadd hC dL_law_570 ?_
  refine G_sld hC hX hbl hbA (vin hi h8 hL 2 (by decide)) dL_law_571 ?_
  refine G_cVi (st := []) hC _ 0 (by omega) (c_X10_best  l (by omega) e_tt e_rowso e_rallarr H_now h572) (cwV 2 hC.hts gL_law_X10_best rfl rfl rfl (by decide +kernel) ⟨Nat.le_of_ble_eq_true rfl, Nat.le_of_ble_eq_true rfl⟩) e_tt rfl rfl (Nat.le_of_ble_eq_true rfl) (Nat.le_of_ble_eq_true rfl) (Nat.le_of_ble_eq_true rfl) rfl dL_law_572 (fun r572 en2 hw => ?_)
  obtain ⟨rfl, e_tt, e_rowso, fr⟩ := hw
  have e_past := (fr 12 (by omega) (by omega)).trans e_past
  have e_text := (fr 81 (by omega) (by omega)).trans e_text
  have e_reader := (fr 83 (by omega) (by omega)).trans e_reader
  have e_night := (fr 98 (by omega) (by omega)).trans e_night
  have e_model := (fr 100 (by omega) (by omega)).trans e_model
  have e_tbytes := (fr 82 (by omega) (by omega)).trans e_tbytes
  have e_rnumarr := (fr 95 (by omega) (by omega)).trans e_rnumarr
  have e_rallarr := (fr 97 (by omega) (by omega)).trans e_rallarr
  have e_nmostarr := (fr 99 (by omega) (by omega)).trans e_nmostarr
  have e_mwarr := (fr 101 (by omega) (by omega)).trans e_mwarr
  have e_mnamesarr := (fr 102 (by omega) (by omega)).trans e_mnamesarr
  have e_mkeptarr := (fr 103 (by omega) (by omega)).trans e_mkeptarr
  have e_mtextarr := (fr 104 (by omega) (by omega)).trans e_mtextarr
  have e_mrefusedarr := (fr 105 (by omega) (by omega)).trans e_mrefusedarr
  have e_miwordarr := (fr 106 (by omega) (by omega)).trans e_miwordarr
  have e_minamearr := (fr 107 (by omega) (by omega)).trans e_minamearr
  have e_mnumberarr := (fr 108 (by omega) (by omega)).trans e_mnumberarr
  have e_mleftarr := (fr 109 (by omega) (by omega)).trans e_mleftarr
  have e_ringarr := (fr 13 (by omega) (by omega)).trans e_ringarr
  have e_imgarr := (fr 58 (by omega) (by omega)).trans e_imgarr
  have H_now := H_now.fr (fun j h1 h2 => fr j (by omega) (by omega))
  have H_draft := H_draft.fr (fun j h1 h2 => fr j (by omega) (by omega))
  have F_ring := fun i (hi : i < 4) => (F_ring i hi).fr (fun j h1 h2 => fr j (by omega) (by omega))
  have F_imgs := fun i (hi : i < 2) => (F_imgs i hi).fr (fun j h1 h2 => fr j (by omega) (by omega))
  refine G_aload_n hC 2 2 rfl rfl dL_law_575 ?_
  refine G_aload_n hC 0 0 rfl rfl dL_law_576 ?_
  refine G_iload_n hC 3 3 rfl rfl dL_law_577 ?_
  refine G_iconst hC (v := 1) (by decide) dL_law_578 ?_
  refine G_iadd hC dL_law_579 ?_
  refine G_sld hC hX hbl hbA (vin hi h8 hL 1 (by decide)) dL_law_580 ?_
  refine G_aload_n hC 0 0 rfl rfl dL_law_581 ?_
  refine G_iload_n hC 3 3 rfl rfl dL_law_582 ?_
  refine G_iconst hC (v := 2) (by decide) dL_law_583 ?_
  refine G_iadd hC dL_law_584 ?_
  refine G_sld hC hX hbl hbA (vin hi h8 hL 2 (by decide)) dL_law_585 ?_
  refine G_cVi (st := [.int q572.1]) hC _ 100 (by omega) (c_X11_best  l (by omega) e_model e_mwarr e_mrefusedarr h586) (cwV 2 hC.hts gL_law_X11_best rfl rfl rfl (by decide +kernel) ⟨Nat.le_of_ble_eq_true rfl, Nat.le_of_ble_eq_true rfl⟩) e_model rfl rfl (Nat.le_of_ble_eq_true rfl) (Nat.le_of_ble_eq_true rfl) (Nat.le_of_ble_eq_true rfl) rfl dL_law_586 (fun r586 en3 hw => ?_)
  obtain ⟨rfl, e_model, e_mrefusedarr, fr⟩ := hw
  have e_tt := (fr 0 (by omega) (by omega)).trans e_tt
  have e_past := (fr 12 (by omega) (by omega)).trans e_past
  have e_text := (fr 81 (by omega) (by omega)).trans e_text
  have e_reader := (fr 83 (by omega) (by omega)).trans e_reader
  have e_rowso := (fr 96 (by omega) (by omega)).trans e_rowso
  have e_night := (fr 98 (by omega) (by omega)).trans e_night
  have e_tbytes := (fr 82 (by omega) (by omega)).trans e_tbytes
  have e_rnumarr := (fr 95 (by omega) (by omega)).trans e_rnumarr
  have e_rallarr := (fr 97 (by omega) (by omega)).trans e_rallarr
  have e_nmostarr := (fr 99 (by omega) (by omega)).trans e_nmostarr
  have e_mwarr := (fr 101 (by omega) (by omega)).trans e_mwarr
  have e_mnamesarr := (fr 102 (by omega) (by omega)).trans e_mnamesarr
  have e_mkeptarr := (fr 103 (by omega) (by omega)).trans e_mkeptarr
  have e_mtextarr := (fr 104 (by omega) (by omega)).trans e_mtextarr
  have e_miwordarr := (fr 106 (by omega) (by omega)).trans e_miwordarr
  have e_minamearr := (fr 107 (by omega) (by omega)).trans e_minamearr
  have e_mnumberarr := (fr 108 (by omega) (by omega)).trans e_mnumberarr
  have e_mleftarr := (fr 109 (by omega) (by omega)).trans e_mleftarr
  have e_ringarr := (fr 13 (by omega) (by omega)).trans e_ringarr
  have e_imgarr := (fr 58 (by omega) (by omega)).trans e_imgarr
  have H_now := H_now.fr (fun j h1 h2 => fr j (by omega) (by omega))
  have H_draft := H_draft.fr (fun j h1 h2 => fr j (by omega) (by omega))
  have F_ring := fun i (hi : i < 4) => (F_ring i hi).fr (fun j h1 h2 => fr j (by omega) (by omega))
  have F_imgs := fun i (hi : i < 2) => (F_imgs i hi).fr (fun j h1 h2 => fr j (by omega) (by omega))
  refine G_icmp_eq hC 1007 dL_law_589 (by decide) (fun _ => ?_) (fun z => absurd heq z)
  exact K _ _ _ _ _ _ _ _ _ _ _ _ _ _ _ _ _ _ _ _ _ _ _ _ _ _ _ _ _ _ _ _ _ _ _ _ _ _ _ _ _ _ _ _ _ _ _ _ _ _ _ _ ⟨e_tt, e_past, e_text, e_reader, e_rowso, e_night, e_model, e_tbytes, e_rnumarr, e_rallarr, e_nmostarr, e_mwarr, e_mnamesarr, e_mkeptarr, e_mtextarr, e_mrefusedarr, e_miwordarr, e_minamearr, e_mnumberarr, e_mleftarr, e_ringarr, e_imgarr, H_now, H_draft, F_ring, F_imgs⟩ hR2
set_option maxHeartbeats 4000000 in
set_option maxRecDepth 100000 in
theorem lc_tell {p : Program} {l : Launch} {e : Env} {s : State} {m : MethodId} {below : List Frame} {meth : Method} {c : Code} {D : va_G} {cs : Nat → ClassId} {sa : Nat → Nat} {ad : Nat → Nat} {b L : Nat} {xs : Nat → Int32} (hL : L ≤ 4096) (hX : va_X b L xs s s.heap) (hbl : b < s.heap.size) (hC : Ck p s m #[Value.ref b] c code 4 wsL_law RL D cs sa 110 ad (fun q => s.heap.size ≤ q)) {i : Nat} {x3 : Int32} (hi : x3 = nI i) (h8 : i + 8 ≤ L) {en1 : Nat → va_E} {keptImages : Int32} {fab : Int64} {fbe : Int64} {bads : Int32} {noes : Int32} {fulls : Int32} {now : HallV} {bl : Int32} {kp : Int32} {ring : Nat → HallV} {imgs : Nat → HallV} {tlen : Int32} {tby : Nat → Int32} {rkind : Int32} {rstart : Int32} {rbehind : Int32} {rname : Int64} {ritems : Int32} {rfault : Int32} {rrefused : Int32} {draft : HallV} {rnums : Nat → Int32} {rall : Nat → Int32} {rheld : Int32} {rsecs : Int32} {rhelp : Int32} {rna : Int32} {rout : Int32} {rmiss : Int64} {nmost : Nat → Int32} {nlearnt : Int32} {mw : Nat → Int32} {mnames : Nat → Int64} {mkept : Nat → Int32} {mtext : Nat → Int32} {mtexted : Int32} {mundo : Int32} {mabove : Int64} {mbelow : Int64} {mrefused : Nat → Int32} {miword : Nat → Int32} {miname : Nat → Int64} {mnumber : Nat → Int32} {mitems : Int32} {mat : Int32} {mfault : Int32} {mtakes : Int32} {mmisses : Int64} {mbest : Int64} {mleft : Nat → Int32} {mh : Int64} (hF : LFacts cs ad en1 keptImages fab fbe bads noes fulls now bl kp ring imgs tlen tby rkind rstart rbehind rname ritems rfault rrefused draft rnums rall rheld rsecs rhelp rna rout rmiss nmost nlearnt mw mnames mkept mtext mtexted mundo mabove mbelow mrefused miword miname mnumber mitems mat mfault mtakes mmisses mbest mleft mh) (hR : LRel keptImages fab fbe bads noes fulls now bl kp ring imgs tlen tby rkind rstart rbehind rname ritems rfault rrefused draft rnums rall rheld rsecs rhelp rna rout rmiss nmost nlearnt mw mnames mkept mtext mtexted mundo mabove mbelow mrefused miword miname mnumber mitems mat mfault mtakes mmisses mbest mleft mh) (K : ∀ (en2 : Nat → va_E) (keptImages : Int32) (fab : Int64) (fbe : Int64) (bads : Int32) (noes : Int32) (fulls : Int32) (now : HallV) (bl : Int32) (kp : Int32) (ring : Nat → HallV) (imgs : Nat → HallV) (tlen : Int32) (tby : Nat → Int32) (rkind : Int32) (rstart : Int32) (rbehind : Int32) (rname : Int64) (ritems : Int32) (rfault : Int32) (rrefused : Int32) (draft : HallV) (rnums : Nat → Int32) (rall : Nat → Int32) (rheld : Int32) (rsecs : Int32) (rhelp : Int32) (rna : Int32) (rout : Int32) (rmiss : Int64) (nmost : Nat → Int32) (nlearnt : Int32) (mw : Nat → Int32) (mnames : Nat → Int64) (mkept : Nat → Int32) (mtext : Nat → Int32) (mtexted : Int32) (mundo : Int32) (mabove : Int64) (mbelow : Int64) (mrefused : Nat → Int32) (miword : Nat → Int32) (miname : Nat → Int64) (mnumber : Nat → Int32) (mitems : Int32) (mat : Int32) (mfault : Int32) (mtakes : Int32) (mmisses : Int64) (mbest : Int64) (mleft : Nat → Int32) (mh : Int64), LFacts cs ad en2 keptImages fab fbe bads noes fulls now bl kp ring imgs tlen tby rkind rstart rbehind rname ritems rfault rrefused draft rnums rall rheld rsecs rhelp rna rout rmiss nmost nlearnt mw mnames mkept mtext mtexted mundo mabove mbelow mrefused miword miname mnumber mitems mat mfault mtakes mmisses mbest mleft mh → LRel keptImages fab fbe bads noes fulls now bl kp ring imgs tlen tby rkind rstart rbehind rname ritems rfault rrefused draft rnums rall rheld rsecs rhelp rna rout rmiss nmost nlearnt mw mnames mkept mtext mtexted mundo mabove mbelow mrefused miword miname mnumber mitems mat mfault mtakes mmisses mbest mleft mh → G p l e room_1 s m #[Value.ref b] below meth c D 110 ad (fun q => s.heap.size ≤ q) 4 110 6275 (lw_Z below #[Value.ref b] s) en2 1007 [(0, .ref b), (1, .ref (ad 0)), (2, .ref (ad 100)), (3, .int x3)] []) : G p l e room_1 s m #[Value.ref b] below meth c D 110 ad (fun q => s.heap.size ≤ q) 4 110 6275 (lw_Z below #[Value.ref b] s) en1 594 [(0, .ref b), (1, .ref (ad 0)), (2, .ref (ad 100)), (3, .int x3)] [] := by
  have hbA : ¬ (fun q => s.heap.size ≤ q) b := Nat.not_le.mpr hbl
  obtain ⟨e_tt, e_past, e_text, e_reader, e_rowso, e_night, e_model, e_tbytes, e_rnumarr, e_rallarr, e_nmostarr, e_mwarr, e_mnamesarr, e_mkeptarr, e_mtextarr, e_mrefusedarr, e_miwordarr, e_minamearr, e_mnumberarr, e_mleftarr, e_ringarr, e_imgarr, H_now, H_draft, F_ring, F_imgs⟩ := hF
  obtain ⟨q605, q619, h605, h619, heq, hR2⟩ := r_tell (bads := bads) (noes := noes) (fulls := fulls) (now := now) (rall := rall) (rheld := rheld) (rsecs := rsecs) (rhelp := rhelp) (rna := rna) (rout := rout) (rmiss := rmiss) (mw := mw) (mrefused := mrefused) (mtakes := mtakes) (mmisses := mmisses) (mbest := mbest) hR (xs (x3 + (1 : Int32)).toNatClampNeg) (xs (x3 + (2 : Int32)).toNatClampNeg)
  refine G_aload_n hC 1 1 rfl rfl dL_law_594 ?_
  refine G_aload_n hC 0 0 rfl rfl dL_law_595 ?_
  refine G_iload_n hC 3 3 rfl rfl dL_law_596 ?_
  refine G_iconst hC (v := 1) (by decide) dL_law_597 ?_
  refine G_iadd hC dL_law_598 ?_
  refine G_sld hC hX hbl hbA (vin hi h8 hL 1 (by decide)) dL_law_599 ?_
  refine G_aload_n hC 0 0 rfl rfl dL_law_600 ?_
  refine G_iload_n hC 3 3 rfl rfl dL_law_601 ?_
  refine G_iconst hC (v := 2) (by decide) dL_law_602 ?_
  refine G_iadd hC dL_law_603 ?_
  refine G_sld hC hX hbl hbA (vin hi h8 hL 2 (by decide)) dL_law_604 ?_
  refine G_cVi (st := []) hC _ 0 (by omega) (c_X10_tell  l (by omega) e_tt e_rowso e_rallarr H_now h605) (cwV 2 hC.hts gL_law_X10_tell rfl rfl rfl (by decide +kernel) ⟨Nat.le_of_ble_eq_true rfl, Nat.le_of_ble_eq_true rfl⟩) e_tt rfl rfl (Nat.le_of_ble_eq_true rfl) (Nat.le_of_ble_eq_true rfl) (Nat.le_of_ble_eq_true rfl) rfl dL_law_605 (fun r605 en2 hw => ?_)
  obtain ⟨rfl, e_tt, e_rowso, fr⟩ := hw
  have e_past := (fr 12 (by omega) (by omega)).trans e_past
  have e_text := (fr 81 (by omega) (by omega)).trans e_text
  have e_reader := (fr 83 (by omega) (by omega)).trans e_reader
  have e_night := (fr 98 (by omega) (by omega)).trans e_night
  have e_model := (fr 100 (by omega) (by omega)).trans e_model
  have e_tbytes := (fr 82 (by omega) (by omega)).trans e_tbytes
  have e_rnumarr := (fr 95 (by omega) (by omega)).trans e_rnumarr
  have e_rallarr := (fr 97 (by omega) (by omega)).trans e_rallarr
  have e_nmostarr := (fr 99 (by omega) (by omega)).trans e_nmostarr
  have e_mwarr := (fr 101 (by omega) (by omega)).trans e_mwarr
  have e_mnamesarr := (fr 102 (by omega) (by omega)).trans e_mnamesarr
  have e_mkeptarr := (fr 103 (by omega) (by omega)).trans e_mkeptarr
  have e_mtextarr := (fr 104 (by omega) (by omega)).trans e_mtextarr
  have e_mrefusedarr := (fr 105 (by omega) (by omega)).trans e_mrefusedarr
  have e_miwordarr := (fr 106 (by omega) (by omega)).trans e_miwordarr
  have e_minamearr := (fr 107 (by omega) (by omega)).trans e_minamearr
  have e_mnumberarr := (fr 108 (by omega) (by omega)).trans e_mnumberarr
  have e_mleftarr := (fr 109 (by omega) (by omega)).trans e_mleftarr
  have e_ringarr := (fr 13 (by omega) (by omega)).trans e_ringarr
  have e_imgarr := (fr 58 (by omega) (by omega)).trans e_imgarr
  have H_now := H_now.fr (fun j h1 h2 => fr j (by omega) (by omega))
  have H_draft := H_draft.fr (fun j h1 h2 => fr j (by omega) (by omega))
  have F_ring := fun i (hi : i < 4) => (F_ring i hi).fr (fun j h1 h2 => fr j (by omega) (by omega))
  have F_imgs := fun i (hi : i < 2) => (F_imgs i hi).fr (fun j h1 h2 => fr j (by omega) (by omega))
  refine G_aload_n hC 2 2 rfl rfl dL_law_608 ?_
  refine G_aload_n hC 0 0 rfl rfl dL_law_609 ?_
  refine G_iload_n hC 3 3 rfl rfl dL_law_610 ?_
  refine G_iconst hC (v := 1) (by decide) dL_law_611 ?_
  refine G_iadd hC dL_law_612 ?_
  refine G_sld hC hX hbl hbA (vin hi h8 hL 1 (by decide)) dL_law_613 ?_
  refine G_aload_n hC 0 0 rfl rfl dL_law_614 ?_
  refine G_iload_n hC 3 3 rfl rfl dL_law_615 ?_
  refine G_iconst hC (v := 2) (by decide) dL_law_616 ?_
  refine G_iadd hC dL_law_617 ?_
  refine G_sld hC hX hbl hbA (vin hi h8 hL 2 (by decide)) dL_law_618 ?_
  refine G_cVi (st := [.int q605.1]) hC _ 100 (by omega) (c_X11_tell  l (by omega) e_model e_mwarr e_mrefusedarr h619) (cwV 2 hC.hts gL_law_X11_tell rfl rfl rfl (by decide +kernel) ⟨Nat.le_of_ble_eq_true rfl, Nat.le_of_ble_eq_true rfl⟩) e_model rfl rfl (Nat.le_of_ble_eq_true rfl) (Nat.le_of_ble_eq_true rfl) (Nat.le_of_ble_eq_true rfl) rfl dL_law_619 (fun r619 en3 hw => ?_)
  obtain ⟨rfl, e_model, e_mrefusedarr, fr⟩ := hw
  have e_tt := (fr 0 (by omega) (by omega)).trans e_tt
  have e_past := (fr 12 (by omega) (by omega)).trans e_past
  have e_text := (fr 81 (by omega) (by omega)).trans e_text
  have e_reader := (fr 83 (by omega) (by omega)).trans e_reader
  have e_rowso := (fr 96 (by omega) (by omega)).trans e_rowso
  have e_night := (fr 98 (by omega) (by omega)).trans e_night
  have e_tbytes := (fr 82 (by omega) (by omega)).trans e_tbytes
  have e_rnumarr := (fr 95 (by omega) (by omega)).trans e_rnumarr
  have e_rallarr := (fr 97 (by omega) (by omega)).trans e_rallarr
  have e_nmostarr := (fr 99 (by omega) (by omega)).trans e_nmostarr
  have e_mwarr := (fr 101 (by omega) (by omega)).trans e_mwarr
  have e_mnamesarr := (fr 102 (by omega) (by omega)).trans e_mnamesarr
  have e_mkeptarr := (fr 103 (by omega) (by omega)).trans e_mkeptarr
  have e_mtextarr := (fr 104 (by omega) (by omega)).trans e_mtextarr
  have e_miwordarr := (fr 106 (by omega) (by omega)).trans e_miwordarr
  have e_minamearr := (fr 107 (by omega) (by omega)).trans e_minamearr
  have e_mnumberarr := (fr 108 (by omega) (by omega)).trans e_mnumberarr
  have e_mleftarr := (fr 109 (by omega) (by omega)).trans e_mleftarr
  have e_ringarr := (fr 13 (by omega) (by omega)).trans e_ringarr
  have e_imgarr := (fr 58 (by omega) (by omega)).trans e_imgarr
  have H_now := H_now.fr (fun j h1 h2 => fr j (by omega) (by omega))
  have H_draft := H_draft.fr (fun j h1 h2 => fr j (by omega) (by omega))
  have F_ring := fun i (hi : i < 4) => (F_ring i hi).fr (fun j h1 h2 => fr j (by omega) (by omega))
  have F_imgs := fun i (hi : i < 2) => (F_imgs i hi).fr (fun j h1 h2 => fr j (by omega) (by omega))
  refine G_icmp_eq hC 1007 dL_law_622 (by decide) (fun _ => ?_) (fun z => absurd heq z)
  exact K _ _ _ _ _ _ _ _ _ _ _ _ _ _ _ _ _ _ _ _ _ _ _ _ _ _ _ _ _ _ _ _ _ _ _ _ _ _ _ _ _ _ _ _ _ _ _ _ _ _ _ _ ⟨e_tt, e_past, e_text, e_reader, e_rowso, e_night, e_model, e_tbytes, e_rnumarr, e_rallarr, e_nmostarr, e_mwarr, e_mnamesarr, e_mkeptarr, e_mtextarr, e_mrefusedarr, e_miwordarr, e_minamearr, e_mnumberarr, e_mleftarr, e_ringarr, e_imgarr, H_now, H_draft, F_ring, F_imgs⟩ hR2
set_option maxHeartbeats 4000000 in
set_option maxRecDepth 100000 in
theorem lc_has {p : Program} {l : Launch} {e : Env} {s : State} {m : MethodId} {below : List Frame} {meth : Method} {c : Code} {D : va_G} {cs : Nat → ClassId} {sa : Nat → Nat} {ad : Nat → Nat} {b L : Nat} {xs : Nat → Int32} (hL : L ≤ 4096) (hX : va_X b L xs s s.heap) (hbl : b < s.heap.size) (hC : Ck p s m #[Value.ref b] c code 4 wsL_law RL D cs sa 110 ad (fun q => s.heap.size ≤ q)) {i : Nat} {x3 : Int32} (hi : x3 = nI i) (h8 : i + 8 ≤ L) {en1 : Nat → va_E} {keptImages : Int32} {fab : Int64} {fbe : Int64} {bads : Int32} {noes : Int32} {fulls : Int32} {now : HallV} {bl : Int32} {kp : Int32} {ring : Nat → HallV} {imgs : Nat → HallV} {tlen : Int32} {tby : Nat → Int32} {rkind : Int32} {rstart : Int32} {rbehind : Int32} {rname : Int64} {ritems : Int32} {rfault : Int32} {rrefused : Int32} {draft : HallV} {rnums : Nat → Int32} {rall : Nat → Int32} {rheld : Int32} {rsecs : Int32} {rhelp : Int32} {rna : Int32} {rout : Int32} {rmiss : Int64} {nmost : Nat → Int32} {nlearnt : Int32} {mw : Nat → Int32} {mnames : Nat → Int64} {mkept : Nat → Int32} {mtext : Nat → Int32} {mtexted : Int32} {mundo : Int32} {mabove : Int64} {mbelow : Int64} {mrefused : Nat → Int32} {miword : Nat → Int32} {miname : Nat → Int64} {mnumber : Nat → Int32} {mitems : Int32} {mat : Int32} {mfault : Int32} {mtakes : Int32} {mmisses : Int64} {mbest : Int64} {mleft : Nat → Int32} {mh : Int64} (hF : LFacts cs ad en1 keptImages fab fbe bads noes fulls now bl kp ring imgs tlen tby rkind rstart rbehind rname ritems rfault rrefused draft rnums rall rheld rsecs rhelp rna rout rmiss nmost nlearnt mw mnames mkept mtext mtexted mundo mabove mbelow mrefused miword miname mnumber mitems mat mfault mtakes mmisses mbest mleft mh) (hR : LRel keptImages fab fbe bads noes fulls now bl kp ring imgs tlen tby rkind rstart rbehind rname ritems rfault rrefused draft rnums rall rheld rsecs rhelp rna rout rmiss nmost nlearnt mw mnames mkept mtext mtexted mundo mabove mbelow mrefused miword miname mnumber mitems mat mfault mtakes mmisses mbest mleft mh) (K : ∀ (en2 : Nat → va_E) (keptImages : Int32) (fab : Int64) (fbe : Int64) (bads : Int32) (noes : Int32) (fulls : Int32) (now : HallV) (bl : Int32) (kp : Int32) (ring : Nat → HallV) (imgs : Nat → HallV) (tlen : Int32) (tby : Nat → Int32) (rkind : Int32) (rstart : Int32) (rbehind : Int32) (rname : Int64) (ritems : Int32) (rfault : Int32) (rrefused : Int32) (draft : HallV) (rnums : Nat → Int32) (rall : Nat → Int32) (rheld : Int32) (rsecs : Int32) (rhelp : Int32) (rna : Int32) (rout : Int32) (rmiss : Int64) (nmost : Nat → Int32) (nlearnt : Int32) (mw : Nat → Int32) (mnames : Nat → Int64) (mkept : Nat → Int32) (mtext : Nat → Int32) (mtexted : Int32) (mundo : Int32) (mabove : Int64) (mbelow : Int64) (mrefused : Nat → Int32) (miword : Nat → Int32) (miname : Nat → Int64) (mnumber : Nat → Int32) (mitems : Int32) (mat : Int32) (mfault : Int32) (mtakes : Int32) (mmisses : Int64) (mbest : Int64) (mleft : Nat → Int32) (mh : Int64), LFacts cs ad en2 keptImages fab fbe bads noes fulls now bl kp ring imgs tlen tby rkind rstart rbehind rname ritems rfault rrefused draft rnums rall rheld rsecs rhelp rna rout rmiss nmost nlearnt mw mnames mkept mtext mtexted mundo mabove mbelow mrefused miword miname mnumber mitems mat mfault mtakes mmisses mbest mleft mh → LRel keptImages fab fbe bads noes fulls now bl kp ring imgs tlen tby rkind rstart rbehind rname ritems rfault rrefused draft rnums rall rheld rsecs rhelp rna rout rmiss nmost nlearnt mw mnames mkept mtext mtexted mundo mabove mbelow mrefused miword miname mnumber mitems mat mfault mtakes mmisses mbest mleft mh → G p l e room_1 s m #[Value.ref b] below meth c D 110 ad (fun q => s.heap.size ≤ q) 4 110 6275 (lw_Z below #[Value.ref b] s) en2 1007 [(0, .ref b), (1, .ref (ad 0)), (2, .ref (ad 100)), (3, .int x3)] []) : G p l e room_1 s m #[Value.ref b] below meth c D 110 ad (fun q => s.heap.size ≤ q) 4 110 6275 (lw_Z below #[Value.ref b] s) en1 627 [(0, .ref b), (1, .ref (ad 0)), (2, .ref (ad 100)), (3, .int x3)] [] := by
  have hbA : ¬ (fun q => s.heap.size ≤ q) b := Nat.not_le.mpr hbl
  obtain ⟨e_tt, e_past, e_text, e_reader, e_rowso, e_night, e_model, e_tbytes, e_rnumarr, e_rallarr, e_nmostarr, e_mwarr, e_mnamesarr, e_mkeptarr, e_mtextarr, e_mrefusedarr, e_miwordarr, e_minamearr, e_mnumberarr, e_mleftarr, e_ringarr, e_imgarr, H_now, H_draft, F_ring, F_imgs⟩ := hF
  obtain ⟨q638, q652, h638, h652, heq, hR2⟩ := r_has (bads := bads) (noes := noes) (fulls := fulls) (now := now) (mw := mw) (mrefused := mrefused) hR (xs (x3 + (1 : Int32)).toNatClampNeg) (xs (x3 + (2 : Int32)).toNatClampNeg)
  refine G_aload_n hC 1 1 rfl rfl dL_law_627 ?_
  refine G_aload_n hC 0 0 rfl rfl dL_law_628 ?_
  refine G_iload_n hC 3 3 rfl rfl dL_law_629 ?_
  refine G_iconst hC (v := 1) (by decide) dL_law_630 ?_
  refine G_iadd hC dL_law_631 ?_
  refine G_sld hC hX hbl hbA (vin hi h8 hL 1 (by decide)) dL_law_632 ?_
  refine G_aload_n hC 0 0 rfl rfl dL_law_633 ?_
  refine G_iload_n hC 3 3 rfl rfl dL_law_634 ?_
  refine G_iconst hC (v := 2) (by decide) dL_law_635 ?_
  refine G_iadd hC dL_law_636 ?_
  refine G_sld hC hX hbl hbA (vin hi h8 hL 2 (by decide)) dL_law_637 ?_
  refine G_cVi (st := []) hC _ 0 (by omega) (c_X10_has  l (by omega) e_tt H_now h638) (cwV 2 hC.hts gL_law_X10_has rfl rfl rfl (by decide +kernel) ⟨Nat.le_of_ble_eq_true rfl, Nat.le_of_ble_eq_true rfl⟩) e_tt rfl rfl (Nat.le_of_ble_eq_true rfl) (Nat.le_of_ble_eq_true rfl) (Nat.le_of_ble_eq_true rfl) rfl dL_law_638 (fun r638 en2 hw => ?_)
  obtain ⟨rfl, e_tt, H_now, fr⟩ := hw
  have e_past := (fr 12 (by omega) (by omega)).trans e_past
  have e_text := (fr 81 (by omega) (by omega)).trans e_text
  have e_reader := (fr 83 (by omega) (by omega)).trans e_reader
  have e_rowso := (fr 96 (by omega) (by omega)).trans e_rowso
  have e_night := (fr 98 (by omega) (by omega)).trans e_night
  have e_model := (fr 100 (by omega) (by omega)).trans e_model
  have e_tbytes := (fr 82 (by omega) (by omega)).trans e_tbytes
  have e_rnumarr := (fr 95 (by omega) (by omega)).trans e_rnumarr
  have e_rallarr := (fr 97 (by omega) (by omega)).trans e_rallarr
  have e_nmostarr := (fr 99 (by omega) (by omega)).trans e_nmostarr
  have e_mwarr := (fr 101 (by omega) (by omega)).trans e_mwarr
  have e_mnamesarr := (fr 102 (by omega) (by omega)).trans e_mnamesarr
  have e_mkeptarr := (fr 103 (by omega) (by omega)).trans e_mkeptarr
  have e_mtextarr := (fr 104 (by omega) (by omega)).trans e_mtextarr
  have e_mrefusedarr := (fr 105 (by omega) (by omega)).trans e_mrefusedarr
  have e_miwordarr := (fr 106 (by omega) (by omega)).trans e_miwordarr
  have e_minamearr := (fr 107 (by omega) (by omega)).trans e_minamearr
  have e_mnumberarr := (fr 108 (by omega) (by omega)).trans e_mnumberarr
  have e_mleftarr := (fr 109 (by omega) (by omega)).trans e_mleftarr
  have e_ringarr := (fr 13 (by omega) (by omega)).trans e_ringarr
  have e_imgarr := (fr 58 (by omega) (by omega)).trans e_imgarr
  have H_draft := H_draft.fr (fun j h1 h2 => fr j (by omega) (by omega))
  have F_ring := fun i (hi : i < 4) => (F_ring i hi).fr (fun j h1 h2 => fr j (by omega) (by omega))
  have F_imgs := fun i (hi : i < 2) => (F_imgs i hi).fr (fun j h1 h2 => fr j (by omega) (by omega))
  refine G_aload_n hC 2 2 rfl rfl dL_law_641 ?_
  refine G_aload_n hC 0 0 rfl rfl dL_law_642 ?_
  refine G_iload_n hC 3 3 rfl rfl dL_law_643 ?_
  refine G_iconst hC (v := 1) (by decide) dL_law_644 ?_
  refine G_iadd hC dL_law_645 ?_
  refine G_sld hC hX hbl hbA (vin hi h8 hL 1 (by decide)) dL_law_646 ?_
  refine G_aload_n hC 0 0 rfl rfl dL_law_647 ?_
  refine G_iload_n hC 3 3 rfl rfl dL_law_648 ?_
  refine G_iconst hC (v := 2) (by decide) dL_law_649 ?_
  refine G_iadd hC dL_law_650 ?_
  refine G_sld hC hX hbl hbA (vin hi h8 hL 2 (by decide)) dL_law_651 ?_
  refine G_cVi (st := [.int q638.1]) hC _ 100 (by omega) (c_X11_has  l (by omega) e_model e_mwarr e_mrefusedarr h652) (cwV 2 hC.hts gL_law_X11_has rfl rfl rfl (by decide +kernel) ⟨Nat.le_of_ble_eq_true rfl, Nat.le_of_ble_eq_true rfl⟩) e_model rfl rfl (Nat.le_of_ble_eq_true rfl) (Nat.le_of_ble_eq_true rfl) (Nat.le_of_ble_eq_true rfl) rfl dL_law_652 (fun r652 en3 hw => ?_)
  obtain ⟨rfl, e_mwarr, e_mrefusedarr, fr⟩ := hw
  have e_tt := (fr 0 (by omega) (by omega)).trans e_tt
  have e_past := (fr 12 (by omega) (by omega)).trans e_past
  have e_text := (fr 81 (by omega) (by omega)).trans e_text
  have e_reader := (fr 83 (by omega) (by omega)).trans e_reader
  have e_rowso := (fr 96 (by omega) (by omega)).trans e_rowso
  have e_night := (fr 98 (by omega) (by omega)).trans e_night
  have e_model := (fr 100 (by omega) (by omega)).trans e_model
  have e_tbytes := (fr 82 (by omega) (by omega)).trans e_tbytes
  have e_rnumarr := (fr 95 (by omega) (by omega)).trans e_rnumarr
  have e_rallarr := (fr 97 (by omega) (by omega)).trans e_rallarr
  have e_nmostarr := (fr 99 (by omega) (by omega)).trans e_nmostarr
  have e_mnamesarr := (fr 102 (by omega) (by omega)).trans e_mnamesarr
  have e_mkeptarr := (fr 103 (by omega) (by omega)).trans e_mkeptarr
  have e_mtextarr := (fr 104 (by omega) (by omega)).trans e_mtextarr
  have e_miwordarr := (fr 106 (by omega) (by omega)).trans e_miwordarr
  have e_minamearr := (fr 107 (by omega) (by omega)).trans e_minamearr
  have e_mnumberarr := (fr 108 (by omega) (by omega)).trans e_mnumberarr
  have e_mleftarr := (fr 109 (by omega) (by omega)).trans e_mleftarr
  have e_ringarr := (fr 13 (by omega) (by omega)).trans e_ringarr
  have e_imgarr := (fr 58 (by omega) (by omega)).trans e_imgarr
  have H_now := H_now.fr (fun j h1 h2 => fr j (by omega) (by omega))
  have H_draft := H_draft.fr (fun j h1 h2 => fr j (by omega) (by omega))
  have F_ring := fun i (hi : i < 4) => (F_ring i hi).fr (fun j h1 h2 => fr j (by omega) (by omega))
  have F_imgs := fun i (hi : i < 2) => (F_imgs i hi).fr (fun j h1 h2 => fr j (by omega) (by omega))
  refine G_icmp_eq hC 1007 dL_law_655 (by decide) (fun _ => ?_) (fun z => absurd heq z)
  exact K _ _ _ _ _ _ _ _ _ _ _ _ _ _ _ _ _ _ _ _ _ _ _ _ _ _ _ _ _ _ _ _ _ _ _ _ _ _ _ _ _ _ _ _ _ _ _ _ _ _ _ _ ⟨e_tt, e_past, e_text, e_reader, e_rowso, e_night, e_model, e_tbytes, e_rnumarr, e_rallarr, e_nmostarr, e_mwarr, e_mnamesarr, e_mkeptarr, e_mtextarr, e_mrefusedarr, e_miwordarr, e_minamearr, e_mnumberarr, e_mleftarr, e_ringarr, e_imgarr, H_now, H_draft, F_ring, F_imgs⟩ hR2
set_option maxHeartbeats 4000000 in
set_option maxRecDepth 100000 in
theorem lc_whose {p : Program} {l : Launch} {e : Env} {s : State} {m : MethodId} {below : List Frame} {meth : Method} {c : Code} {D : va_G} {cs : Nat → ClassId} {sa : Nat → Nat} {ad : Nat → Nat} {b L : Nat} {xs : Nat → Int32} (hL : L ≤ 4096) (hX : va_X b L xs s s.heap) (hbl : b < s.heap.size) (hC : Ck p s m #[Value.ref b] c code 4 wsL_law RL D cs sa 110 ad (fun q => s.heap.size ≤ q)) {i : Nat} {x3 : Int32} (hi : x3 = nI i) (h8 : i + 8 ≤ L) {en1 : Nat → va_E} {keptImages : Int32} {fab : Int64} {fbe : Int64} {bads : Int32} {noes : Int32} {fulls : Int32} {now : HallV} {bl : Int32} {kp : Int32} {ring : Nat → HallV} {imgs : Nat → HallV} {tlen : Int32} {tby : Nat → Int32} {rkind : Int32} {rstart : Int32} {rbehind : Int32} {rname : Int64} {ritems : Int32} {rfault : Int32} {rrefused : Int32} {draft : HallV} {rnums : Nat → Int32} {rall : Nat → Int32} {rheld : Int32} {rsecs : Int32} {rhelp : Int32} {rna : Int32} {rout : Int32} {rmiss : Int64} {nmost : Nat → Int32} {nlearnt : Int32} {mw : Nat → Int32} {mnames : Nat → Int64} {mkept : Nat → Int32} {mtext : Nat → Int32} {mtexted : Int32} {mundo : Int32} {mabove : Int64} {mbelow : Int64} {mrefused : Nat → Int32} {miword : Nat → Int32} {miname : Nat → Int64} {mnumber : Nat → Int32} {mitems : Int32} {mat : Int32} {mfault : Int32} {mtakes : Int32} {mmisses : Int64} {mbest : Int64} {mleft : Nat → Int32} {mh : Int64} (hF : LFacts cs ad en1 keptImages fab fbe bads noes fulls now bl kp ring imgs tlen tby rkind rstart rbehind rname ritems rfault rrefused draft rnums rall rheld rsecs rhelp rna rout rmiss nmost nlearnt mw mnames mkept mtext mtexted mundo mabove mbelow mrefused miword miname mnumber mitems mat mfault mtakes mmisses mbest mleft mh) (hR : LRel keptImages fab fbe bads noes fulls now bl kp ring imgs tlen tby rkind rstart rbehind rname ritems rfault rrefused draft rnums rall rheld rsecs rhelp rna rout rmiss nmost nlearnt mw mnames mkept mtext mtexted mundo mabove mbelow mrefused miword miname mnumber mitems mat mfault mtakes mmisses mbest mleft mh) (K : ∀ (en2 : Nat → va_E) (keptImages : Int32) (fab : Int64) (fbe : Int64) (bads : Int32) (noes : Int32) (fulls : Int32) (now : HallV) (bl : Int32) (kp : Int32) (ring : Nat → HallV) (imgs : Nat → HallV) (tlen : Int32) (tby : Nat → Int32) (rkind : Int32) (rstart : Int32) (rbehind : Int32) (rname : Int64) (ritems : Int32) (rfault : Int32) (rrefused : Int32) (draft : HallV) (rnums : Nat → Int32) (rall : Nat → Int32) (rheld : Int32) (rsecs : Int32) (rhelp : Int32) (rna : Int32) (rout : Int32) (rmiss : Int64) (nmost : Nat → Int32) (nlearnt : Int32) (mw : Nat → Int32) (mnames : Nat → Int64) (mkept : Nat → Int32) (mtext : Nat → Int32) (mtexted : Int32) (mundo : Int32) (mabove : Int64) (mbelow : Int64) (mrefused : Nat → Int32) (miword : Nat → Int32) (miname : Nat → Int64) (mnumber : Nat → Int32) (mitems : Int32) (mat : Int32) (mfault : Int32) (mtakes : Int32) (mmisses : Int64) (mbest : Int64) (mleft : Nat → Int32) (mh : Int64), LFacts cs ad en2 keptImages fab fbe bads noes fulls now bl kp ring imgs tlen tby rkind rstart rbehind rname ritems rfault rrefused draft rnums rall rheld rsecs rhelp rna rout rmiss nmost nlearnt mw mnames mkept mtext mtexted mundo mabove mbelow mrefused miword miname mnumber mitems mat mfault mtakes mmisses mbest mleft mh → LRel keptImages fab fbe bads noes fulls now bl kp ring imgs tlen tby rkind rstart rbehind rname ritems rfault rrefused draft rnums rall rheld rsecs rhelp rna rout rmiss nmost nlearnt mw mnames mkept mtext mtexted mundo mabove mbelow mrefused miword miname mnumber mitems mat mfault mtakes mmisses mbest mleft mh → G p l e room_1 s m #[Value.ref b] below meth c D 110 ad (fun q => s.heap.size ≤ q) 4 110 6275 (lw_Z below #[Value.ref b] s) en2 1007 [(0, .ref b), (1, .ref (ad 0)), (2, .ref (ad 100)), (3, .int x3)] []) : G p l e room_1 s m #[Value.ref b] below meth c D 110 ad (fun q => s.heap.size ≤ q) 4 110 6275 (lw_Z below #[Value.ref b] s) en1 660 [(0, .ref b), (1, .ref (ad 0)), (2, .ref (ad 100)), (3, .int x3)] [] := by
  have hbA : ¬ (fun q => s.heap.size ≤ q) b := Nat.not_le.mpr hbl
  obtain ⟨e_tt, e_past, e_text, e_reader, e_rowso, e_night, e_model, e_tbytes, e_rnumarr, e_rallarr, e_nmostarr, e_mwarr, e_mnamesarr, e_mkeptarr, e_mtextarr, e_mrefusedarr, e_miwordarr, e_minamearr, e_mnumberarr, e_mleftarr, e_ringarr, e_imgarr, H_now, H_draft, F_ring, F_imgs⟩ := hF
  obtain ⟨q661, q665, h661, h665, heq, hR2⟩ := r_whose (now := now) (mw := mw) (mnames := mnames) hR 
  refine G_aload_n hC 1 1 rfl rfl dL_law_660 ?_
  refine G_cVi (st := []) hC _ 0 (by omega) (c_X10_whose  l (by omega) e_tt H_now h661) (cwV 0 hC.hts gL_law_X10_whose rfl rfl rfl (by decide +kernel) ⟨Nat.le_of_ble_eq_true rfl, Nat.le_of_ble_eq_true rfl⟩) e_tt rfl rfl (Nat.le_of_ble_eq_true rfl) (Nat.le_of_ble_eq_true rfl) (Nat.le_of_ble_eq_true rfl) rfl dL_law_661 (fun r661 enx hw => ?_)
  obtain ⟨rfl, rfl⟩ := hw
  refine G_aload_n hC 2 2 rfl rfl dL_law_664 ?_
  refine G_cVi (st := [.int q661]) hC _ 100 (by omega) (c_X11_whose  l (by omega) e_model e_mwarr e_mnamesarr h665) (cwV 0 hC.hts gL_law_X11_whose rfl rfl rfl (by decide +kernel) ⟨Nat.le_of_ble_eq_true rfl, Nat.le_of_ble_eq_true rfl⟩) e_model rfl rfl (Nat.le_of_ble_eq_true rfl) (Nat.le_of_ble_eq_true rfl) (Nat.le_of_ble_eq_true rfl) rfl dL_law_665 (fun r665 enx hw => ?_)
  obtain ⟨rfl, rfl⟩ := hw
  refine G_icmp_eq hC 1007 dL_law_668 (by decide) (fun _ => ?_) (fun z => absurd heq z)
  exact K _ _ _ _ _ _ _ _ _ _ _ _ _ _ _ _ _ _ _ _ _ _ _ _ _ _ _ _ _ _ _ _ _ _ _ _ _ _ _ _ _ _ _ _ _ _ _ _ _ _ _ _ ⟨e_tt, e_past, e_text, e_reader, e_rowso, e_night, e_model, e_tbytes, e_rnumarr, e_rallarr, e_nmostarr, e_mwarr, e_mnamesarr, e_mkeptarr, e_mtextarr, e_mrefusedarr, e_miwordarr, e_minamearr, e_mnumberarr, e_mleftarr, e_ringarr, e_imgarr, H_now, H_draft, F_ring, F_imgs⟩ hR2
set_option maxHeartbeats 4000000 in
set_option maxRecDepth 100000 in
theorem lc_odds {p : Program} {l : Launch} {e : Env} {s : State} {m : MethodId} {below : List Frame} {meth : Method} {c : Code} {D : va_G} {cs : Nat → ClassId} {sa : Nat → Nat} {ad : Nat → Nat} {b L : Nat} {xs : Nat → Int32} (hL : L ≤ 4096) (hX : va_X b L xs s s.heap) (hbl : b < s.heap.size) (hC : Ck p s m #[Value.ref b] c code 4 wsL_law RL D cs sa 110 ad (fun q => s.heap.size ≤ q)) {i : Nat} {x3 : Int32} (hi : x3 = nI i) (h8 : i + 8 ≤ L) {en1 : Nat → va_E} {keptImages : Int32} {fab : Int64} {fbe : Int64} {bads : Int32} {noes : Int32} {fulls : Int32} {now : HallV} {bl : Int32} {kp : Int32} {ring : Nat → HallV} {imgs : Nat → HallV} {tlen : Int32} {tby : Nat → Int32} {rkind : Int32} {rstart : Int32} {rbehind : Int32} {rname : Int64} {ritems : Int32} {rfault : Int32} {rrefused : Int32} {draft : HallV} {rnums : Nat → Int32} {rall : Nat → Int32} {rheld : Int32} {rsecs : Int32} {rhelp : Int32} {rna : Int32} {rout : Int32} {rmiss : Int64} {nmost : Nat → Int32} {nlearnt : Int32} {mw : Nat → Int32} {mnames : Nat → Int64} {mkept : Nat → Int32} {mtext : Nat → Int32} {mtexted : Int32} {mundo : Int32} {mabove : Int64} {mbelow : Int64} {mrefused : Nat → Int32} {miword : Nat → Int32} {miname : Nat → Int64} {mnumber : Nat → Int32} {mitems : Int32} {mat : Int32} {mfault : Int32} {mtakes : Int32} {mmisses : Int64} {mbest : Int64} {mleft : Nat → Int32} {mh : Int64} (hF : LFacts cs ad en1 keptImages fab fbe bads noes fulls now bl kp ring imgs tlen tby rkind rstart rbehind rname ritems rfault rrefused draft rnums rall rheld rsecs rhelp rna rout rmiss nmost nlearnt mw mnames mkept mtext mtexted mundo mabove mbelow mrefused miword miname mnumber mitems mat mfault mtakes mmisses mbest mleft mh) (hR : LRel keptImages fab fbe bads noes fulls now bl kp ring imgs tlen tby rkind rstart rbehind rname ritems rfault rrefused draft rnums rall rheld rsecs rhelp rna rout rmiss nmost nlearnt mw mnames mkept mtext mtexted mundo mabove mbelow mrefused miword miname mnumber mitems mat mfault mtakes mmisses mbest mleft mh) (K : ∀ (en2 : Nat → va_E) (keptImages : Int32) (fab : Int64) (fbe : Int64) (bads : Int32) (noes : Int32) (fulls : Int32) (now : HallV) (bl : Int32) (kp : Int32) (ring : Nat → HallV) (imgs : Nat → HallV) (tlen : Int32) (tby : Nat → Int32) (rkind : Int32) (rstart : Int32) (rbehind : Int32) (rname : Int64) (ritems : Int32) (rfault : Int32) (rrefused : Int32) (draft : HallV) (rnums : Nat → Int32) (rall : Nat → Int32) (rheld : Int32) (rsecs : Int32) (rhelp : Int32) (rna : Int32) (rout : Int32) (rmiss : Int64) (nmost : Nat → Int32) (nlearnt : Int32) (mw : Nat → Int32) (mnames : Nat → Int64) (mkept : Nat → Int32) (mtext : Nat → Int32) (mtexted : Int32) (mundo : Int32) (mabove : Int64) (mbelow : Int64) (mrefused : Nat → Int32) (miword : Nat → Int32) (miname : Nat → Int64) (mnumber : Nat → Int32) (mitems : Int32) (mat : Int32) (mfault : Int32) (mtakes : Int32) (mmisses : Int64) (mbest : Int64) (mleft : Nat → Int32) (mh : Int64), LFacts cs ad en2 keptImages fab fbe bads noes fulls now bl kp ring imgs tlen tby rkind rstart rbehind rname ritems rfault rrefused draft rnums rall rheld rsecs rhelp rna rout rmiss nmost nlearnt mw mnames mkept mtext mtexted mundo mabove mbelow mrefused miword miname mnumber mitems mat mfault mtakes mmisses mbest mleft mh → LRel keptImages fab fbe bads noes fulls now bl kp ring imgs tlen tby rkind rstart rbehind rname ritems rfault rrefused draft rnums rall rheld rsecs rhelp rna rout rmiss nmost nlearnt mw mnames mkept mtext mtexted mundo mabove mbelow mrefused miword miname mnumber mitems mat mfault mtakes mmisses mbest mleft mh → G p l e room_1 s m #[Value.ref b] below meth c D 110 ad (fun q => s.heap.size ≤ q) 4 110 6275 (lw_Z below #[Value.ref b] s) en2 1007 [(0, .ref b), (1, .ref (ad 0)), (2, .ref (ad 100)), (3, .int x3)] []) : G p l e room_1 s m #[Value.ref b] below meth c D 110 ad (fun q => s.heap.size ≤ q) 4 110 6275 (lw_Z below #[Value.ref b] s) en1 673 [(0, .ref b), (1, .ref (ad 0)), (2, .ref (ad 100)), (3, .int x3)] [] := by
  have hbA : ¬ (fun q => s.heap.size ≤ q) b := Nat.not_le.mpr hbl
  obtain ⟨e_tt, e_past, e_text, e_reader, e_rowso, e_night, e_model, e_tbytes, e_rnumarr, e_rallarr, e_nmostarr, e_mwarr, e_mnamesarr, e_mkeptarr, e_mtextarr, e_mrefusedarr, e_miwordarr, e_minamearr, e_mnumberarr, e_mleftarr, e_ringarr, e_imgarr, H_now, H_draft, F_ring, F_imgs⟩ := hF
  obtain ⟨q679, q688, h679, h688, heq, hR2⟩ := r_odds (fab := fab) (fbe := fbe) (bads := bads) (noes := noes) (fulls := fulls) (now := now) (mw := mw) (mnames := mnames) (mabove := mabove) (mbelow := mbelow) (mrefused := mrefused) hR (xs (x3 + (1 : Int32)).toNatClampNeg)
  refine G_aload_n hC 1 1 rfl rfl dL_law_673 ?_
  refine G_aload_n hC 0 0 rfl rfl dL_law_674 ?_
  refine G_iload_n hC 3 3 rfl rfl dL_law_675 ?_
  refine G_iconst hC (v := 1) (by decide) dL_law_676 ?_
  refine G_iadd hC dL_law_677 ?_
  refine G_sld hC hX hbl hbA (vin hi h8 hL 1 (by decide)) dL_law_678 ?_
  refine G_cVi (st := []) hC _ 0 (by omega) (c_X10_odds  l (by omega) e_tt H_now h679) (cwV 1 hC.hts gL_law_X10_odds rfl rfl rfl (by decide +kernel) ⟨Nat.le_of_ble_eq_true rfl, Nat.le_of_ble_eq_true rfl⟩) e_tt rfl rfl (Nat.le_of_ble_eq_true rfl) (Nat.le_of_ble_eq_true rfl) (Nat.le_of_ble_eq_true rfl) rfl dL_law_679 (fun r679 en2 hw => ?_)
  obtain ⟨rfl, e_tt, fr⟩ := hw
  have e_past := (fr 12 (by omega)).trans e_past
  have e_text := (fr 81 (by omega)).trans e_text
  have e_reader := (fr 83 (by omega)).trans e_reader
  have e_rowso := (fr 96 (by omega)).trans e_rowso
  have e_night := (fr 98 (by omega)).trans e_night
  have e_model := (fr 100 (by omega)).trans e_model
  have e_tbytes := (fr 82 (by omega)).trans e_tbytes
  have e_rnumarr := (fr 95 (by omega)).trans e_rnumarr
  have e_rallarr := (fr 97 (by omega)).trans e_rallarr
  have e_nmostarr := (fr 99 (by omega)).trans e_nmostarr
  have e_mwarr := (fr 101 (by omega)).trans e_mwarr
  have e_mnamesarr := (fr 102 (by omega)).trans e_mnamesarr
  have e_mkeptarr := (fr 103 (by omega)).trans e_mkeptarr
  have e_mtextarr := (fr 104 (by omega)).trans e_mtextarr
  have e_mrefusedarr := (fr 105 (by omega)).trans e_mrefusedarr
  have e_miwordarr := (fr 106 (by omega)).trans e_miwordarr
  have e_minamearr := (fr 107 (by omega)).trans e_minamearr
  have e_mnumberarr := (fr 108 (by omega)).trans e_mnumberarr
  have e_mleftarr := (fr 109 (by omega)).trans e_mleftarr
  have e_ringarr := (fr 13 (by omega)).trans e_ringarr
  have e_imgarr := (fr 58 (by omega)).trans e_imgarr
  have H_now := H_now.fr (fun j h1 h2 => fr j (by omega))
  have H_draft := H_draft.fr (fun j h1 h2 => fr j (by omega))
  have F_ring := fun i (hi : i < 4) => (F_ring i hi).fr (fun j h1 h2 => fr j (by omega))
  have F_imgs := fun i (hi : i < 2) => (F_imgs i hi).fr (fun j h1 h2 => fr j (by omega))
  refine G_aload_n hC 2 2 rfl rfl dL_law_682 ?_
  refine G_aload_n hC 0 0 rfl rfl dL_law_683 ?_
  refine G_iload_n hC 3 3 rfl rfl dL_law_684 ?_
  refine G_iconst hC (v := 1) (by decide) dL_law_685 ?_
  refine G_iadd hC dL_law_686 ?_
  refine G_sld hC hX hbl hbA (vin hi h8 hL 1 (by decide)) dL_law_687 ?_
  refine G_cVi (st := [.int q679.1]) hC _ 100 (by omega) (c_X11_odds  l (by omega) e_model e_mwarr e_mnamesarr e_mrefusedarr h688) (cwV 1 hC.hts gL_law_X11_odds rfl rfl rfl (by decide +kernel) ⟨Nat.le_of_ble_eq_true rfl, Nat.le_of_ble_eq_true rfl⟩) e_model rfl rfl (Nat.le_of_ble_eq_true rfl) (Nat.le_of_ble_eq_true rfl) (Nat.le_of_ble_eq_true rfl) rfl dL_law_688 (fun r688 en3 hw => ?_)
  obtain ⟨rfl, e_model, e_mrefusedarr, fr⟩ := hw
  have e_tt := (fr 0 (by omega) (by omega)).trans e_tt
  have e_past := (fr 12 (by omega) (by omega)).trans e_past
  have e_text := (fr 81 (by omega) (by omega)).trans e_text
  have e_reader := (fr 83 (by omega) (by omega)).trans e_reader
  have e_rowso := (fr 96 (by omega) (by omega)).trans e_rowso
  have e_night := (fr 98 (by omega) (by omega)).trans e_night
  have e_tbytes := (fr 82 (by omega) (by omega)).trans e_tbytes
  have e_rnumarr := (fr 95 (by omega) (by omega)).trans e_rnumarr
  have e_rallarr := (fr 97 (by omega) (by omega)).trans e_rallarr
  have e_nmostarr := (fr 99 (by omega) (by omega)).trans e_nmostarr
  have e_mwarr := (fr 101 (by omega) (by omega)).trans e_mwarr
  have e_mnamesarr := (fr 102 (by omega) (by omega)).trans e_mnamesarr
  have e_mkeptarr := (fr 103 (by omega) (by omega)).trans e_mkeptarr
  have e_mtextarr := (fr 104 (by omega) (by omega)).trans e_mtextarr
  have e_miwordarr := (fr 106 (by omega) (by omega)).trans e_miwordarr
  have e_minamearr := (fr 107 (by omega) (by omega)).trans e_minamearr
  have e_mnumberarr := (fr 108 (by omega) (by omega)).trans e_mnumberarr
  have e_mleftarr := (fr 109 (by omega) (by omega)).trans e_mleftarr
  have e_ringarr := (fr 13 (by omega) (by omega)).trans e_ringarr
  have e_imgarr := (fr 58 (by omega) (by omega)).trans e_imgarr
  have H_now := H_now.fr (fun j h1 h2 => fr j (by omega) (by omega))
  have H_draft := H_draft.fr (fun j h1 h2 => fr j (by omega) (by omega))
  have F_ring := fun i (hi : i < 4) => (F_ring i hi).fr (fun j h1 h2 => fr j (by omega) (by omega))
  have F_imgs := fun i (hi : i < 2) => (F_imgs i hi).fr (fun j h1 h2 => fr j (by omega) (by omega))
  refine G_icmp_eq hC 1007 dL_law_691 (by decide) (fun _ => ?_) (fun z => absurd heq z)
  exact K _ _ _ _ _ _ _ _ _ _ _ _ _ _ _ _ _ _ _ _ _ _ _ _ _ _ _ _ _ _ _ _ _ _ _ _ _ _ _ _ _ _ _ _ _ _ _ _ _ _ _ _ ⟨e_tt, e_past, e_text, e_reader, e_rowso, e_night, e_model, e_tbytes, e_rnumarr, e_rallarr, e_nmostarr, e_mwarr, e_mnamesarr, e_mkeptarr, e_mtextarr, e_mrefusedarr, e_miwordarr, e_minamearr, e_mnumberarr, e_mleftarr, e_ringarr, e_imgarr, H_now, H_draft, F_ring, F_imgs⟩ hR2
set_option maxHeartbeats 4000000 in
set_option maxRecDepth 100000 in
theorem lc_next {p : Program} {l : Launch} {e : Env} {s : State} {m : MethodId} {below : List Frame} {meth : Method} {c : Code} {D : va_G} {cs : Nat → ClassId} {sa : Nat → Nat} {ad : Nat → Nat} {b L : Nat} {xs : Nat → Int32} (hL : L ≤ 4096) (hX : va_X b L xs s s.heap) (hbl : b < s.heap.size) (hC : Ck p s m #[Value.ref b] c code 4 wsL_law RL D cs sa 110 ad (fun q => s.heap.size ≤ q)) {i : Nat} {x3 : Int32} (hi : x3 = nI i) (h8 : i + 8 ≤ L) {en1 : Nat → va_E} {keptImages : Int32} {fab : Int64} {fbe : Int64} {bads : Int32} {noes : Int32} {fulls : Int32} {now : HallV} {bl : Int32} {kp : Int32} {ring : Nat → HallV} {imgs : Nat → HallV} {tlen : Int32} {tby : Nat → Int32} {rkind : Int32} {rstart : Int32} {rbehind : Int32} {rname : Int64} {ritems : Int32} {rfault : Int32} {rrefused : Int32} {draft : HallV} {rnums : Nat → Int32} {rall : Nat → Int32} {rheld : Int32} {rsecs : Int32} {rhelp : Int32} {rna : Int32} {rout : Int32} {rmiss : Int64} {nmost : Nat → Int32} {nlearnt : Int32} {mw : Nat → Int32} {mnames : Nat → Int64} {mkept : Nat → Int32} {mtext : Nat → Int32} {mtexted : Int32} {mundo : Int32} {mabove : Int64} {mbelow : Int64} {mrefused : Nat → Int32} {miword : Nat → Int32} {miname : Nat → Int64} {mnumber : Nat → Int32} {mitems : Int32} {mat : Int32} {mfault : Int32} {mtakes : Int32} {mmisses : Int64} {mbest : Int64} {mleft : Nat → Int32} {mh : Int64} (hF : LFacts cs ad en1 keptImages fab fbe bads noes fulls now bl kp ring imgs tlen tby rkind rstart rbehind rname ritems rfault rrefused draft rnums rall rheld rsecs rhelp rna rout rmiss nmost nlearnt mw mnames mkept mtext mtexted mundo mabove mbelow mrefused miword miname mnumber mitems mat mfault mtakes mmisses mbest mleft mh) (hR : LRel keptImages fab fbe bads noes fulls now bl kp ring imgs tlen tby rkind rstart rbehind rname ritems rfault rrefused draft rnums rall rheld rsecs rhelp rna rout rmiss nmost nlearnt mw mnames mkept mtext mtexted mundo mabove mbelow mrefused miword miname mnumber mitems mat mfault mtakes mmisses mbest mleft mh) (K : ∀ (en2 : Nat → va_E) (keptImages : Int32) (fab : Int64) (fbe : Int64) (bads : Int32) (noes : Int32) (fulls : Int32) (now : HallV) (bl : Int32) (kp : Int32) (ring : Nat → HallV) (imgs : Nat → HallV) (tlen : Int32) (tby : Nat → Int32) (rkind : Int32) (rstart : Int32) (rbehind : Int32) (rname : Int64) (ritems : Int32) (rfault : Int32) (rrefused : Int32) (draft : HallV) (rnums : Nat → Int32) (rall : Nat → Int32) (rheld : Int32) (rsecs : Int32) (rhelp : Int32) (rna : Int32) (rout : Int32) (rmiss : Int64) (nmost : Nat → Int32) (nlearnt : Int32) (mw : Nat → Int32) (mnames : Nat → Int64) (mkept : Nat → Int32) (mtext : Nat → Int32) (mtexted : Int32) (mundo : Int32) (mabove : Int64) (mbelow : Int64) (mrefused : Nat → Int32) (miword : Nat → Int32) (miname : Nat → Int64) (mnumber : Nat → Int32) (mitems : Int32) (mat : Int32) (mfault : Int32) (mtakes : Int32) (mmisses : Int64) (mbest : Int64) (mleft : Nat → Int32) (mh : Int64), LFacts cs ad en2 keptImages fab fbe bads noes fulls now bl kp ring imgs tlen tby rkind rstart rbehind rname ritems rfault rrefused draft rnums rall rheld rsecs rhelp rna rout rmiss nmost nlearnt mw mnames mkept mtext mtexted mundo mabove mbelow mrefused miword miname mnumber mitems mat mfault mtakes mmisses mbest mleft mh → LRel keptImages fab fbe bads noes fulls now bl kp ring imgs tlen tby rkind rstart rbehind rname ritems rfault rrefused draft rnums rall rheld rsecs rhelp rna rout rmiss nmost nlearnt mw mnames mkept mtext mtexted mundo mabove mbelow mrefused miword miname mnumber mitems mat mfault mtakes mmisses mbest mleft mh → G p l e room_1 s m #[Value.ref b] below meth c D 110 ad (fun q => s.heap.size ≤ q) 4 110 6275 (lw_Z below #[Value.ref b] s) en2 1007 [(0, .ref b), (1, .ref (ad 0)), (2, .ref (ad 100)), (3, .int x3)] []) : G p l e room_1 s m #[Value.ref b] below meth c D 110 ad (fun q => s.heap.size ≤ q) 4 110 6275 (lw_Z below #[Value.ref b] s) en1 696 [(0, .ref b), (1, .ref (ad 0)), (2, .ref (ad 100)), (3, .int x3)] [] := by
  have hbA : ¬ (fun q => s.heap.size ≤ q) b := Nat.not_le.mpr hbl
  obtain ⟨e_tt, e_past, e_text, e_reader, e_rowso, e_night, e_model, e_tbytes, e_rnumarr, e_rallarr, e_nmostarr, e_mwarr, e_mnamesarr, e_mkeptarr, e_mtextarr, e_mrefusedarr, e_miwordarr, e_minamearr, e_mnumberarr, e_mleftarr, e_ringarr, e_imgarr, H_now, H_draft, F_ring, F_imgs⟩ := hF
  obtain ⟨q697, q701, h697, h701, heq, hR2⟩ := r_next (bads := bads) (noes := noes) (fulls := fulls) (now := now) (mw := mw) (mnames := mnames) (mrefused := mrefused) hR 
  refine G_aload_n hC 1 1 rfl rfl dL_law_696 ?_
  refine G_cVi (st := []) hC _ 0 (by omega) (c_X10_next  l (by omega) e_tt H_now h697) (cwV 0 hC.hts gL_law_X10_next rfl rfl rfl (by decide +kernel) ⟨Nat.le_of_ble_eq_true rfl, Nat.le_of_ble_eq_true rfl⟩) e_tt rfl rfl (Nat.le_of_ble_eq_true rfl) (Nat.le_of_ble_eq_true rfl) (Nat.le_of_ble_eq_true rfl) rfl dL_law_697 (fun r697 en2 hw => ?_)
  obtain ⟨rfl, e_tt, fr⟩ := hw
  have e_past := (fr 12 (by omega)).trans e_past
  have e_text := (fr 81 (by omega)).trans e_text
  have e_reader := (fr 83 (by omega)).trans e_reader
  have e_rowso := (fr 96 (by omega)).trans e_rowso
  have e_night := (fr 98 (by omega)).trans e_night
  have e_model := (fr 100 (by omega)).trans e_model
  have e_tbytes := (fr 82 (by omega)).trans e_tbytes
  have e_rnumarr := (fr 95 (by omega)).trans e_rnumarr
  have e_rallarr := (fr 97 (by omega)).trans e_rallarr
  have e_nmostarr := (fr 99 (by omega)).trans e_nmostarr
  have e_mwarr := (fr 101 (by omega)).trans e_mwarr
  have e_mnamesarr := (fr 102 (by omega)).trans e_mnamesarr
  have e_mkeptarr := (fr 103 (by omega)).trans e_mkeptarr
  have e_mtextarr := (fr 104 (by omega)).trans e_mtextarr
  have e_mrefusedarr := (fr 105 (by omega)).trans e_mrefusedarr
  have e_miwordarr := (fr 106 (by omega)).trans e_miwordarr
  have e_minamearr := (fr 107 (by omega)).trans e_minamearr
  have e_mnumberarr := (fr 108 (by omega)).trans e_mnumberarr
  have e_mleftarr := (fr 109 (by omega)).trans e_mleftarr
  have e_ringarr := (fr 13 (by omega)).trans e_ringarr
  have e_imgarr := (fr 58 (by omega)).trans e_imgarr
  have H_now := H_now.fr (fun j h1 h2 => fr j (by omega))
  have H_draft := H_draft.fr (fun j h1 h2 => fr j (by omega))
  have F_ring := fun i (hi : i < 4) => (F_ring i hi).fr (fun j h1 h2 => fr j (by omega))
  have F_imgs := fun i (hi : i < 2) => (F_imgs i hi).fr (fun j h1 h2 => fr j (by omega))
  refine G_aload_n hC 2 2 rfl rfl dL_law_700 ?_
  refine G_cVi (st := [.int q697.1]) hC _ 100 (by omega) (c_X11_next  l (by omega) e_model e_mwarr e_mnamesarr e_mrefusedarr h701) (cwV 0 hC.hts gL_law_X11_next rfl rfl rfl (by decide +kernel) ⟨Nat.le_of_ble_eq_true rfl, Nat.le_of_ble_eq_true rfl⟩) e_model rfl rfl (Nat.le_of_ble_eq_true rfl) (Nat.le_of_ble_eq_true rfl) (Nat.le_of_ble_eq_true rfl) rfl dL_law_701 (fun r701 en3 hw => ?_)
  obtain ⟨rfl, e_mrefusedarr, fr⟩ := hw
  have e_tt := (fr 0 (by omega)).trans e_tt
  have e_past := (fr 12 (by omega)).trans e_past
  have e_text := (fr 81 (by omega)).trans e_text
  have e_reader := (fr 83 (by omega)).trans e_reader
  have e_rowso := (fr 96 (by omega)).trans e_rowso
  have e_night := (fr 98 (by omega)).trans e_night
  have e_model := (fr 100 (by omega)).trans e_model
  have e_tbytes := (fr 82 (by omega)).trans e_tbytes
  have e_rnumarr := (fr 95 (by omega)).trans e_rnumarr
  have e_rallarr := (fr 97 (by omega)).trans e_rallarr
  have e_nmostarr := (fr 99 (by omega)).trans e_nmostarr
  have e_mwarr := (fr 101 (by omega)).trans e_mwarr
  have e_mnamesarr := (fr 102 (by omega)).trans e_mnamesarr
  have e_mkeptarr := (fr 103 (by omega)).trans e_mkeptarr
  have e_mtextarr := (fr 104 (by omega)).trans e_mtextarr
  have e_miwordarr := (fr 106 (by omega)).trans e_miwordarr
  have e_minamearr := (fr 107 (by omega)).trans e_minamearr
  have e_mnumberarr := (fr 108 (by omega)).trans e_mnumberarr
  have e_mleftarr := (fr 109 (by omega)).trans e_mleftarr
  have e_ringarr := (fr 13 (by omega)).trans e_ringarr
  have e_imgarr := (fr 58 (by omega)).trans e_imgarr
  have H_now := H_now.fr (fun j h1 h2 => fr j (by omega))
  have H_draft := H_draft.fr (fun j h1 h2 => fr j (by omega))
  have F_ring := fun i (hi : i < 4) => (F_ring i hi).fr (fun j h1 h2 => fr j (by omega))
  have F_imgs := fun i (hi : i < 2) => (F_imgs i hi).fr (fun j h1 h2 => fr j (by omega))
  refine G_icmp_eq hC 1007 dL_law_704 (by decide) (fun _ => ?_) (fun z => absurd heq z)
  exact K _ _ _ _ _ _ _ _ _ _ _ _ _ _ _ _ _ _ _ _ _ _ _ _ _ _ _ _ _ _ _ _ _ _ _ _ _ _ _ _ _ _ _ _ _ _ _ _ _ _ _ _ ⟨e_tt, e_past, e_text, e_reader, e_rowso, e_night, e_model, e_tbytes, e_rnumarr, e_rallarr, e_nmostarr, e_mwarr, e_mnamesarr, e_mkeptarr, e_mtextarr, e_mrefusedarr, e_miwordarr, e_minamearr, e_mnumberarr, e_mleftarr, e_ringarr, e_imgarr, H_now, H_draft, F_ring, F_imgs⟩ hR2
set_option maxHeartbeats 4000000 in
set_option maxRecDepth 100000 in
theorem lc_question {p : Program} {l : Launch} {e : Env} {s : State} {m : MethodId} {below : List Frame} {meth : Method} {c : Code} {D : va_G} {cs : Nat → ClassId} {sa : Nat → Nat} {ad : Nat → Nat} {b L : Nat} {xs : Nat → Int32} (hL : L ≤ 4096) (hX : va_X b L xs s s.heap) (hbl : b < s.heap.size) (hC : Ck p s m #[Value.ref b] c code 4 wsL_law RL D cs sa 110 ad (fun q => s.heap.size ≤ q)) {i : Nat} {x3 : Int32} (hi : x3 = nI i) (h8 : i + 8 ≤ L) {en1 : Nat → va_E} {keptImages : Int32} {fab : Int64} {fbe : Int64} {bads : Int32} {noes : Int32} {fulls : Int32} {now : HallV} {bl : Int32} {kp : Int32} {ring : Nat → HallV} {imgs : Nat → HallV} {tlen : Int32} {tby : Nat → Int32} {rkind : Int32} {rstart : Int32} {rbehind : Int32} {rname : Int64} {ritems : Int32} {rfault : Int32} {rrefused : Int32} {draft : HallV} {rnums : Nat → Int32} {rall : Nat → Int32} {rheld : Int32} {rsecs : Int32} {rhelp : Int32} {rna : Int32} {rout : Int32} {rmiss : Int64} {nmost : Nat → Int32} {nlearnt : Int32} {mw : Nat → Int32} {mnames : Nat → Int64} {mkept : Nat → Int32} {mtext : Nat → Int32} {mtexted : Int32} {mundo : Int32} {mabove : Int64} {mbelow : Int64} {mrefused : Nat → Int32} {miword : Nat → Int32} {miname : Nat → Int64} {mnumber : Nat → Int32} {mitems : Int32} {mat : Int32} {mfault : Int32} {mtakes : Int32} {mmisses : Int64} {mbest : Int64} {mleft : Nat → Int32} {mh : Int64} (hF : LFacts cs ad en1 keptImages fab fbe bads noes fulls now bl kp ring imgs tlen tby rkind rstart rbehind rname ritems rfault rrefused draft rnums rall rheld rsecs rhelp rna rout rmiss nmost nlearnt mw mnames mkept mtext mtexted mundo mabove mbelow mrefused miword miname mnumber mitems mat mfault mtakes mmisses mbest mleft mh) (hR : LRel keptImages fab fbe bads noes fulls now bl kp ring imgs tlen tby rkind rstart rbehind rname ritems rfault rrefused draft rnums rall rheld rsecs rhelp rna rout rmiss nmost nlearnt mw mnames mkept mtext mtexted mundo mabove mbelow mrefused miword miname mnumber mitems mat mfault mtakes mmisses mbest mleft mh) (K : ∀ (en2 : Nat → va_E) (keptImages : Int32) (fab : Int64) (fbe : Int64) (bads : Int32) (noes : Int32) (fulls : Int32) (now : HallV) (bl : Int32) (kp : Int32) (ring : Nat → HallV) (imgs : Nat → HallV) (tlen : Int32) (tby : Nat → Int32) (rkind : Int32) (rstart : Int32) (rbehind : Int32) (rname : Int64) (ritems : Int32) (rfault : Int32) (rrefused : Int32) (draft : HallV) (rnums : Nat → Int32) (rall : Nat → Int32) (rheld : Int32) (rsecs : Int32) (rhelp : Int32) (rna : Int32) (rout : Int32) (rmiss : Int64) (nmost : Nat → Int32) (nlearnt : Int32) (mw : Nat → Int32) (mnames : Nat → Int64) (mkept : Nat → Int32) (mtext : Nat → Int32) (mtexted : Int32) (mundo : Int32) (mabove : Int64) (mbelow : Int64) (mrefused : Nat → Int32) (miword : Nat → Int32) (miname : Nat → Int64) (mnumber : Nat → Int32) (mitems : Int32) (mat : Int32) (mfault : Int32) (mtakes : Int32) (mmisses : Int64) (mbest : Int64) (mleft : Nat → Int32) (mh : Int64), LFacts cs ad en2 keptImages fab fbe bads noes fulls now bl kp ring imgs tlen tby rkind rstart rbehind rname ritems rfault rrefused draft rnums rall rheld rsecs rhelp rna rout rmiss nmost nlearnt mw mnames mkept mtext mtexted mundo mabove mbelow mrefused miword miname mnumber mitems mat mfault mtakes mmisses mbest mleft mh → LRel keptImages fab fbe bads noes fulls now bl kp ring imgs tlen tby rkind rstart rbehind rname ritems rfault rrefused draft rnums rall rheld rsecs rhelp rna rout rmiss nmost nlearnt mw mnames mkept mtext mtexted mundo mabove mbelow mrefused miword miname mnumber mitems mat mfault mtakes mmisses mbest mleft mh → G p l e room_1 s m #[Value.ref b] below meth c D 110 ad (fun q => s.heap.size ≤ q) 4 110 6275 (lw_Z below #[Value.ref b] s) en2 1007 [(0, .ref b), (1, .ref (ad 0)), (2, .ref (ad 100)), (3, .int x3)] []) : G p l e room_1 s m #[Value.ref b] below meth c D 110 ad (fun q => s.heap.size ≤ q) 4 110 6275 (lw_Z below #[Value.ref b] s) en1 709 [(0, .ref b), (1, .ref (ad 0)), (2, .ref (ad 100)), (3, .int x3)] [] := by
  have hbA : ¬ (fun q => s.heap.size ≤ q) b := Nat.not_le.mpr hbl
  obtain ⟨e_tt, e_past, e_text, e_reader, e_rowso, e_night, e_model, e_tbytes, e_rnumarr, e_rallarr, e_nmostarr, e_mwarr, e_mnamesarr, e_mkeptarr, e_mtextarr, e_mrefusedarr, e_miwordarr, e_minamearr, e_mnumberarr, e_mleftarr, e_ringarr, e_imgarr, H_now, H_draft, F_ring, F_imgs⟩ := hF
  obtain ⟨q720, q734, h720, h734, heq, hR2⟩ := r_question (bads := bads) (noes := noes) (fulls := fulls) (now := now) (mw := mw) (mrefused := mrefused) hR (xs (x3 + (1 : Int32)).toNatClampNeg) (xs (x3 + (2 : Int32)).toNatClampNeg)
  refine G_aload_n hC 1 1 rfl rfl dL_law_709 ?_
  refine G_aload_n hC 0 0 rfl rfl dL_law_710 ?_
  refine G_iload_n hC 3 3 rfl rfl dL_law_711 ?_
  refine G_iconst hC (v := 1) (by decide) dL_law_712 ?_
  refine G_iadd hC dL_law_713 ?_
  refine G_sld hC hX hbl hbA (vin hi h8 hL 1 (by decide)) dL_law_714 ?_
  refine G_aload_n hC 0 0 rfl rfl dL_law_715 ?_
  refine G_iload_n hC 3 3 rfl rfl dL_law_716 ?_
  refine G_iconst hC (v := 2) (by decide) dL_law_717 ?_
  refine G_iadd hC dL_law_718 ?_
  refine G_sld hC hX hbl hbA (vin hi h8 hL 2 (by decide)) dL_law_719 ?_
  refine G_cVi (st := []) hC _ 0 (by omega) (c_X10_question  l (by omega) e_tt H_now h720) (cwV 2 hC.hts gL_law_X10_question rfl rfl rfl (by decide +kernel) ⟨Nat.le_of_ble_eq_true rfl, Nat.le_of_ble_eq_true rfl⟩) e_tt rfl rfl (Nat.le_of_ble_eq_true rfl) (Nat.le_of_ble_eq_true rfl) (Nat.le_of_ble_eq_true rfl) rfl dL_law_720 (fun r720 en2 hw => ?_)
  obtain ⟨rfl, e_tt, H_now, fr⟩ := hw
  have e_past := (fr 12 (by omega) (by omega)).trans e_past
  have e_text := (fr 81 (by omega) (by omega)).trans e_text
  have e_reader := (fr 83 (by omega) (by omega)).trans e_reader
  have e_rowso := (fr 96 (by omega) (by omega)).trans e_rowso
  have e_night := (fr 98 (by omega) (by omega)).trans e_night
  have e_model := (fr 100 (by omega) (by omega)).trans e_model
  have e_tbytes := (fr 82 (by omega) (by omega)).trans e_tbytes
  have e_rnumarr := (fr 95 (by omega) (by omega)).trans e_rnumarr
  have e_rallarr := (fr 97 (by omega) (by omega)).trans e_rallarr
  have e_nmostarr := (fr 99 (by omega) (by omega)).trans e_nmostarr
  have e_mwarr := (fr 101 (by omega) (by omega)).trans e_mwarr
  have e_mnamesarr := (fr 102 (by omega) (by omega)).trans e_mnamesarr
  have e_mkeptarr := (fr 103 (by omega) (by omega)).trans e_mkeptarr
  have e_mtextarr := (fr 104 (by omega) (by omega)).trans e_mtextarr
  have e_mrefusedarr := (fr 105 (by omega) (by omega)).trans e_mrefusedarr
  have e_miwordarr := (fr 106 (by omega) (by omega)).trans e_miwordarr
  have e_minamearr := (fr 107 (by omega) (by omega)).trans e_minamearr
  have e_mnumberarr := (fr 108 (by omega) (by omega)).trans e_mnumberarr
  have e_mleftarr := (fr 109 (by omega) (by omega)).trans e_mleftarr
  have e_ringarr := (fr 13 (by omega) (by omega)).trans e_ringarr
  have e_imgarr := (fr 58 (by omega) (by omega)).trans e_imgarr
  have H_draft := H_draft.fr (fun j h1 h2 => fr j (by omega) (by omega))
  have F_ring := fun i (hi : i < 4) => (F_ring i hi).fr (fun j h1 h2 => fr j (by omega) (by omega))
  have F_imgs := fun i (hi : i < 2) => (F_imgs i hi).fr (fun j h1 h2 => fr j (by omega) (by omega))
  refine G_aload_n hC 2 2 rfl rfl dL_law_723 ?_
  refine G_aload_n hC 0 0 rfl rfl dL_law_724 ?_
  refine G_iload_n hC 3 3 rfl rfl dL_law_725 ?_
  refine G_iconst hC (v := 1) (by decide) dL_law_726 ?_
  refine G_iadd hC dL_law_727 ?_
  refine G_sld hC hX hbl hbA (vin hi h8 hL 1 (by decide)) dL_law_728 ?_
  refine G_aload_n hC 0 0 rfl rfl dL_law_729 ?_
  refine G_iload_n hC 3 3 rfl rfl dL_law_730 ?_
  refine G_iconst hC (v := 2) (by decide) dL_law_731 ?_
  refine G_iadd hC dL_law_732 ?_
  refine G_sld hC hX hbl hbA (vin hi h8 hL 2 (by decide)) dL_law_733 ?_
  refine G_cVi (st := [.int q720.1]) hC _ 100 (by omega) (c_X11_question  l (by omega) e_model e_mwarr e_mrefusedarr h734) (cwV 2 hC.hts gL_law_X11_question rfl rfl rfl (by decide +kernel) ⟨Nat.le_of_ble_eq_true rfl, Nat.le_of_ble_eq_true rfl⟩) e_model rfl rfl (Nat.le_of_ble_eq_true rfl) (Nat.le_of_ble_eq_true rfl) (Nat.le_of_ble_eq_true rfl) rfl dL_law_734 (fun r734 en3 hw => ?_)
  obtain ⟨rfl, e_mwarr, e_mrefusedarr, fr⟩ := hw
  have e_tt := (fr 0 (by omega) (by omega)).trans e_tt
  have e_past := (fr 12 (by omega) (by omega)).trans e_past
  have e_text := (fr 81 (by omega) (by omega)).trans e_text
  have e_reader := (fr 83 (by omega) (by omega)).trans e_reader
  have e_rowso := (fr 96 (by omega) (by omega)).trans e_rowso
  have e_night := (fr 98 (by omega) (by omega)).trans e_night
  have e_model := (fr 100 (by omega) (by omega)).trans e_model
  have e_tbytes := (fr 82 (by omega) (by omega)).trans e_tbytes
  have e_rnumarr := (fr 95 (by omega) (by omega)).trans e_rnumarr
  have e_rallarr := (fr 97 (by omega) (by omega)).trans e_rallarr
  have e_nmostarr := (fr 99 (by omega) (by omega)).trans e_nmostarr
  have e_mnamesarr := (fr 102 (by omega) (by omega)).trans e_mnamesarr
  have e_mkeptarr := (fr 103 (by omega) (by omega)).trans e_mkeptarr
  have e_mtextarr := (fr 104 (by omega) (by omega)).trans e_mtextarr
  have e_miwordarr := (fr 106 (by omega) (by omega)).trans e_miwordarr
  have e_minamearr := (fr 107 (by omega) (by omega)).trans e_minamearr
  have e_mnumberarr := (fr 108 (by omega) (by omega)).trans e_mnumberarr
  have e_mleftarr := (fr 109 (by omega) (by omega)).trans e_mleftarr
  have e_ringarr := (fr 13 (by omega) (by omega)).trans e_ringarr
  have e_imgarr := (fr 58 (by omega) (by omega)).trans e_imgarr
  have H_now := H_now.fr (fun j h1 h2 => fr j (by omega) (by omega))
  have H_draft := H_draft.fr (fun j h1 h2 => fr j (by omega) (by omega))
  have F_ring := fun i (hi : i < 4) => (F_ring i hi).fr (fun j h1 h2 => fr j (by omega) (by omega))
  have F_imgs := fun i (hi : i < 2) => (F_imgs i hi).fr (fun j h1 h2 => fr j (by omega) (by omega))
  refine G_icmp_eq hC 1007 dL_law_737 (by decide) (fun _ => ?_) (fun z => absurd heq z)
  exact K _ _ _ _ _ _ _ _ _ _ _ _ _ _ _ _ _ _ _ _ _ _ _ _ _ _ _ _ _ _ _ _ _ _ _ _ _ _ _ _ _ _ _ _ _ _ _ _ _ _ _ _ ⟨e_tt, e_past, e_text, e_reader, e_rowso, e_night, e_model, e_tbytes, e_rnumarr, e_rallarr, e_nmostarr, e_mwarr, e_mnamesarr, e_mkeptarr, e_mtextarr, e_mrefusedarr, e_miwordarr, e_minamearr, e_mnumberarr, e_mleftarr, e_ringarr, e_imgarr, H_now, H_draft, F_ring, F_imgs⟩ hR2
set_option maxHeartbeats 4000000 in
set_option maxRecDepth 100000 in
theorem lc_ask {p : Program} {l : Launch} {e : Env} {s : State} {m : MethodId} {below : List Frame} {meth : Method} {c : Code} {D : va_G} {cs : Nat → ClassId} {sa : Nat → Nat} {ad : Nat → Nat} {b L : Nat} {xs : Nat → Int32} (hL : L ≤ 4096) (hX : va_X b L xs s s.heap) (hbl : b < s.heap.size) (hC : Ck p s m #[Value.ref b] c code 4 wsL_law RL D cs sa 110 ad (fun q => s.heap.size ≤ q)) {i : Nat} {x3 : Int32} (hi : x3 = nI i) (h8 : i + 8 ≤ L) {en1 : Nat → va_E} {keptImages : Int32} {fab : Int64} {fbe : Int64} {bads : Int32} {noes : Int32} {fulls : Int32} {now : HallV} {bl : Int32} {kp : Int32} {ring : Nat → HallV} {imgs : Nat → HallV} {tlen : Int32} {tby : Nat → Int32} {rkind : Int32} {rstart : Int32} {rbehind : Int32} {rname : Int64} {ritems : Int32} {rfault : Int32} {rrefused : Int32} {draft : HallV} {rnums : Nat → Int32} {rall : Nat → Int32} {rheld : Int32} {rsecs : Int32} {rhelp : Int32} {rna : Int32} {rout : Int32} {rmiss : Int64} {nmost : Nat → Int32} {nlearnt : Int32} {mw : Nat → Int32} {mnames : Nat → Int64} {mkept : Nat → Int32} {mtext : Nat → Int32} {mtexted : Int32} {mundo : Int32} {mabove : Int64} {mbelow : Int64} {mrefused : Nat → Int32} {miword : Nat → Int32} {miname : Nat → Int64} {mnumber : Nat → Int32} {mitems : Int32} {mat : Int32} {mfault : Int32} {mtakes : Int32} {mmisses : Int64} {mbest : Int64} {mleft : Nat → Int32} {mh : Int64} (hF : LFacts cs ad en1 keptImages fab fbe bads noes fulls now bl kp ring imgs tlen tby rkind rstart rbehind rname ritems rfault rrefused draft rnums rall rheld rsecs rhelp rna rout rmiss nmost nlearnt mw mnames mkept mtext mtexted mundo mabove mbelow mrefused miword miname mnumber mitems mat mfault mtakes mmisses mbest mleft mh) (hR : LRel keptImages fab fbe bads noes fulls now bl kp ring imgs tlen tby rkind rstart rbehind rname ritems rfault rrefused draft rnums rall rheld rsecs rhelp rna rout rmiss nmost nlearnt mw mnames mkept mtext mtexted mundo mabove mbelow mrefused miword miname mnumber mitems mat mfault mtakes mmisses mbest mleft mh) (K : ∀ (en2 : Nat → va_E) (keptImages : Int32) (fab : Int64) (fbe : Int64) (bads : Int32) (noes : Int32) (fulls : Int32) (now : HallV) (bl : Int32) (kp : Int32) (ring : Nat → HallV) (imgs : Nat → HallV) (tlen : Int32) (tby : Nat → Int32) (rkind : Int32) (rstart : Int32) (rbehind : Int32) (rname : Int64) (ritems : Int32) (rfault : Int32) (rrefused : Int32) (draft : HallV) (rnums : Nat → Int32) (rall : Nat → Int32) (rheld : Int32) (rsecs : Int32) (rhelp : Int32) (rna : Int32) (rout : Int32) (rmiss : Int64) (nmost : Nat → Int32) (nlearnt : Int32) (mw : Nat → Int32) (mnames : Nat → Int64) (mkept : Nat → Int32) (mtext : Nat → Int32) (mtexted : Int32) (mundo : Int32) (mabove : Int64) (mbelow : Int64) (mrefused : Nat → Int32) (miword : Nat → Int32) (miname : Nat → Int64) (mnumber : Nat → Int32) (mitems : Int32) (mat : Int32) (mfault : Int32) (mtakes : Int32) (mmisses : Int64) (mbest : Int64) (mleft : Nat → Int32) (mh : Int64), LFacts cs ad en2 keptImages fab fbe bads noes fulls now bl kp ring imgs tlen tby rkind rstart rbehind rname ritems rfault rrefused draft rnums rall rheld rsecs rhelp rna rout rmiss nmost nlearnt mw mnames mkept mtext mtexted mundo mabove mbelow mrefused miword miname mnumber mitems mat mfault mtakes mmisses mbest mleft mh → LRel keptImages fab fbe bads noes fulls now bl kp ring imgs tlen tby rkind rstart rbehind rname ritems rfault rrefused draft rnums rall rheld rsecs rhelp rna rout rmiss nmost nlearnt mw mnames mkept mtext mtexted mundo mabove mbelow mrefused miword miname mnumber mitems mat mfault mtakes mmisses mbest mleft mh → G p l e room_1 s m #[Value.ref b] below meth c D 110 ad (fun q => s.heap.size ≤ q) 4 110 6275 (lw_Z below #[Value.ref b] s) en2 1007 [(0, .ref b), (1, .ref (ad 0)), (2, .ref (ad 100)), (3, .int x3)] []) : G p l e room_1 s m #[Value.ref b] below meth c D 110 ad (fun q => s.heap.size ≤ q) 4 110 6275 (lw_Z below #[Value.ref b] s) en1 742 [(0, .ref b), (1, .ref (ad 0)), (2, .ref (ad 100)), (3, .int x3)] [] := by
  have hbA : ¬ (fun q => s.heap.size ≤ q) b := Nat.not_le.mpr hbl
  obtain ⟨e_tt, e_past, e_text, e_reader, e_rowso, e_night, e_model, e_tbytes, e_rnumarr, e_rallarr, e_nmostarr, e_mwarr, e_mnamesarr, e_mkeptarr, e_mtextarr, e_mrefusedarr, e_miwordarr, e_minamearr, e_mnumberarr, e_mleftarr, e_ringarr, e_imgarr, H_now, H_draft, F_ring, F_imgs⟩ := hF
  obtain ⟨q743, q747, h743, h747, heq, hR2⟩ := r_ask (bads := bads) (noes := noes) (fulls := fulls) (now := now) (mw := mw) (mnames := mnames) (mrefused := mrefused) hR 
  refine G_aload_n hC 1 1 rfl rfl dL_law_742 ?_
  refine G_cVi (st := []) hC _ 0 (by omega) (c_X10_ask  l (by omega) e_tt H_now h743) (cwV 0 hC.hts gL_law_X10_ask rfl rfl rfl (by decide +kernel) ⟨Nat.le_of_ble_eq_true rfl, Nat.le_of_ble_eq_true rfl⟩) e_tt rfl rfl (Nat.le_of_ble_eq_true rfl) (Nat.le_of_ble_eq_true rfl) (Nat.le_of_ble_eq_true rfl) rfl dL_law_743 (fun r743 en2 hw => ?_)
  obtain ⟨rfl, e_tt, fr⟩ := hw
  have e_past := (fr 12 (by omega)).trans e_past
  have e_text := (fr 81 (by omega)).trans e_text
  have e_reader := (fr 83 (by omega)).trans e_reader
  have e_rowso := (fr 96 (by omega)).trans e_rowso
  have e_night := (fr 98 (by omega)).trans e_night
  have e_model := (fr 100 (by omega)).trans e_model
  have e_tbytes := (fr 82 (by omega)).trans e_tbytes
  have e_rnumarr := (fr 95 (by omega)).trans e_rnumarr
  have e_rallarr := (fr 97 (by omega)).trans e_rallarr
  have e_nmostarr := (fr 99 (by omega)).trans e_nmostarr
  have e_mwarr := (fr 101 (by omega)).trans e_mwarr
  have e_mnamesarr := (fr 102 (by omega)).trans e_mnamesarr
  have e_mkeptarr := (fr 103 (by omega)).trans e_mkeptarr
  have e_mtextarr := (fr 104 (by omega)).trans e_mtextarr
  have e_mrefusedarr := (fr 105 (by omega)).trans e_mrefusedarr
  have e_miwordarr := (fr 106 (by omega)).trans e_miwordarr
  have e_minamearr := (fr 107 (by omega)).trans e_minamearr
  have e_mnumberarr := (fr 108 (by omega)).trans e_mnumberarr
  have e_mleftarr := (fr 109 (by omega)).trans e_mleftarr
  have e_ringarr := (fr 13 (by omega)).trans e_ringarr
  have e_imgarr := (fr 58 (by omega)).trans e_imgarr
  have H_now := H_now.fr (fun j h1 h2 => fr j (by omega))
  have H_draft := H_draft.fr (fun j h1 h2 => fr j (by omega))
  have F_ring := fun i (hi : i < 4) => (F_ring i hi).fr (fun j h1 h2 => fr j (by omega))
  have F_imgs := fun i (hi : i < 2) => (F_imgs i hi).fr (fun j h1 h2 => fr j (by omega))
  refine G_aload_n hC 2 2 rfl rfl dL_law_746 ?_
  refine G_cVi (st := [.int q743.1]) hC _ 100 (by omega) (c_X11_ask  l (by omega) e_model e_mwarr e_mnamesarr e_mrefusedarr h747) (cwV 0 hC.hts gL_law_X11_ask rfl rfl rfl (by decide +kernel) ⟨Nat.le_of_ble_eq_true rfl, Nat.le_of_ble_eq_true rfl⟩) e_model rfl rfl (Nat.le_of_ble_eq_true rfl) (Nat.le_of_ble_eq_true rfl) (Nat.le_of_ble_eq_true rfl) rfl dL_law_747 (fun r747 en3 hw => ?_)
  obtain ⟨rfl, e_mrefusedarr, fr⟩ := hw
  have e_tt := (fr 0 (by omega)).trans e_tt
  have e_past := (fr 12 (by omega)).trans e_past
  have e_text := (fr 81 (by omega)).trans e_text
  have e_reader := (fr 83 (by omega)).trans e_reader
  have e_rowso := (fr 96 (by omega)).trans e_rowso
  have e_night := (fr 98 (by omega)).trans e_night
  have e_model := (fr 100 (by omega)).trans e_model
  have e_tbytes := (fr 82 (by omega)).trans e_tbytes
  have e_rnumarr := (fr 95 (by omega)).trans e_rnumarr
  have e_rallarr := (fr 97 (by omega)).trans e_rallarr
  have e_nmostarr := (fr 99 (by omega)).trans e_nmostarr
  have e_mwarr := (fr 101 (by omega)).trans e_mwarr
  have e_mnamesarr := (fr 102 (by omega)).trans e_mnamesarr
  have e_mkeptarr := (fr 103 (by omega)).trans e_mkeptarr
  have e_mtextarr := (fr 104 (by omega)).trans e_mtextarr
  have e_miwordarr := (fr 106 (by omega)).trans e_miwordarr
  have e_minamearr := (fr 107 (by omega)).trans e_minamearr
  have e_mnumberarr := (fr 108 (by omega)).trans e_mnumberarr
  have e_mleftarr := (fr 109 (by omega)).trans e_mleftarr
  have e_ringarr := (fr 13 (by omega)).trans e_ringarr
  have e_imgarr := (fr 58 (by omega)).trans e_imgarr
  have H_now := H_now.fr (fun j h1 h2 => fr j (by omega))
  have H_draft := H_draft.fr (fun j h1 h2 => fr j (by omega))
  have F_ring := fun i (hi : i < 4) => (F_ring i hi).fr (fun j h1 h2 => fr j (by omega))
  have F_imgs := fun i (hi : i < 2) => (F_imgs i hi).fr (fun j h1 h2 => fr j (by omega))
  refine G_icmp_eq hC 1007 dL_law_750 (by decide) (fun _ => ?_) (fun z => absurd heq z)
  exact K _ _ _ _ _ _ _ _ _ _ _ _ _ _ _ _ _ _ _ _ _ _ _ _ _ _ _ _ _ _ _ _ _ _ _ _ _ _ _ _ _ _ _ _ _ _ _ _ _ _ _ _ ⟨e_tt, e_past, e_text, e_reader, e_rowso, e_night, e_model, e_tbytes, e_rnumarr, e_rallarr, e_nmostarr, e_mwarr, e_mnamesarr, e_mkeptarr, e_mtextarr, e_mrefusedarr, e_miwordarr, e_minamearr, e_mnumberarr, e_mleftarr, e_ringarr, e_imgarr, H_now, H_draft, F_ring, F_imgs⟩ hR2
set_option maxHeartbeats 4000000 in
set_option maxRecDepth 100000 in
theorem lc_index {p : Program} {l : Launch} {e : Env} {s : State} {m : MethodId} {below : List Frame} {meth : Method} {c : Code} {D : va_G} {cs : Nat → ClassId} {sa : Nat → Nat} {ad : Nat → Nat} {b L : Nat} {xs : Nat → Int32} (hL : L ≤ 4096) (hX : va_X b L xs s s.heap) (hbl : b < s.heap.size) (hC : Ck p s m #[Value.ref b] c code 4 wsL_law RL D cs sa 110 ad (fun q => s.heap.size ≤ q)) {i : Nat} {x3 : Int32} (hi : x3 = nI i) (h8 : i + 8 ≤ L) {en1 : Nat → va_E} {keptImages : Int32} {fab : Int64} {fbe : Int64} {bads : Int32} {noes : Int32} {fulls : Int32} {now : HallV} {bl : Int32} {kp : Int32} {ring : Nat → HallV} {imgs : Nat → HallV} {tlen : Int32} {tby : Nat → Int32} {rkind : Int32} {rstart : Int32} {rbehind : Int32} {rname : Int64} {ritems : Int32} {rfault : Int32} {rrefused : Int32} {draft : HallV} {rnums : Nat → Int32} {rall : Nat → Int32} {rheld : Int32} {rsecs : Int32} {rhelp : Int32} {rna : Int32} {rout : Int32} {rmiss : Int64} {nmost : Nat → Int32} {nlearnt : Int32} {mw : Nat → Int32} {mnames : Nat → Int64} {mkept : Nat → Int32} {mtext : Nat → Int32} {mtexted : Int32} {mundo : Int32} {mabove : Int64} {mbelow : Int64} {mrefused : Nat → Int32} {miword : Nat → Int32} {miname : Nat → Int64} {mnumber : Nat → Int32} {mitems : Int32} {mat : Int32} {mfault : Int32} {mtakes : Int32} {mmisses : Int64} {mbest : Int64} {mleft : Nat → Int32} {mh : Int64} (hF : LFacts cs ad en1 keptImages fab fbe bads noes fulls now bl kp ring imgs tlen tby rkind rstart rbehind rname ritems rfault rrefused draft rnums rall rheld rsecs rhelp rna rout rmiss nmost nlearnt mw mnames mkept mtext mtexted mundo mabove mbelow mrefused miword miname mnumber mitems mat mfault mtakes mmisses mbest mleft mh) (hR : LRel keptImages fab fbe bads noes fulls now bl kp ring imgs tlen tby rkind rstart rbehind rname ritems rfault rrefused draft rnums rall rheld rsecs rhelp rna rout rmiss nmost nlearnt mw mnames mkept mtext mtexted mundo mabove mbelow mrefused miword miname mnumber mitems mat mfault mtakes mmisses mbest mleft mh) (K : ∀ (en2 : Nat → va_E) (keptImages : Int32) (fab : Int64) (fbe : Int64) (bads : Int32) (noes : Int32) (fulls : Int32) (now : HallV) (bl : Int32) (kp : Int32) (ring : Nat → HallV) (imgs : Nat → HallV) (tlen : Int32) (tby : Nat → Int32) (rkind : Int32) (rstart : Int32) (rbehind : Int32) (rname : Int64) (ritems : Int32) (rfault : Int32) (rrefused : Int32) (draft : HallV) (rnums : Nat → Int32) (rall : Nat → Int32) (rheld : Int32) (rsecs : Int32) (rhelp : Int32) (rna : Int32) (rout : Int32) (rmiss : Int64) (nmost : Nat → Int32) (nlearnt : Int32) (mw : Nat → Int32) (mnames : Nat → Int64) (mkept : Nat → Int32) (mtext : Nat → Int32) (mtexted : Int32) (mundo : Int32) (mabove : Int64) (mbelow : Int64) (mrefused : Nat → Int32) (miword : Nat → Int32) (miname : Nat → Int64) (mnumber : Nat → Int32) (mitems : Int32) (mat : Int32) (mfault : Int32) (mtakes : Int32) (mmisses : Int64) (mbest : Int64) (mleft : Nat → Int32) (mh : Int64), LFacts cs ad en2 keptImages fab fbe bads noes fulls now bl kp ring imgs tlen tby rkind rstart rbehind rname ritems rfault rrefused draft rnums rall rheld rsecs rhelp rna rout rmiss nmost nlearnt mw mnames mkept mtext mtexted mundo mabove mbelow mrefused miword miname mnumber mitems mat mfault mtakes mmisses mbest mleft mh → LRel keptImages fab fbe bads noes fulls now bl kp ring imgs tlen tby rkind rstart rbehind rname ritems rfault rrefused draft rnums rall rheld rsecs rhelp rna rout rmiss nmost nlearnt mw mnames mkept mtext mtexted mundo mabove mbelow mrefused miword miname mnumber mitems mat mfault mtakes mmisses mbest mleft mh → G p l e room_1 s m #[Value.ref b] below meth c D 110 ad (fun q => s.heap.size ≤ q) 4 110 6275 (lw_Z below #[Value.ref b] s) en2 1007 [(0, .ref b), (1, .ref (ad 0)), (2, .ref (ad 100)), (3, .int x3)] []) : G p l e room_1 s m #[Value.ref b] below meth c D 110 ad (fun q => s.heap.size ≤ q) 4 110 6275 (lw_Z below #[Value.ref b] s) en1 755 [(0, .ref b), (1, .ref (ad 0)), (2, .ref (ad 100)), (3, .int x3)] [] := by
  have hbA : ¬ (fun q => s.heap.size ≤ q) b := Nat.not_le.mpr hbl
  obtain ⟨e_tt, e_past, e_text, e_reader, e_rowso, e_night, e_model, e_tbytes, e_rnumarr, e_rallarr, e_nmostarr, e_mwarr, e_mnamesarr, e_mkeptarr, e_mtextarr, e_mrefusedarr, e_miwordarr, e_minamearr, e_mnumberarr, e_mleftarr, e_ringarr, e_imgarr, H_now, H_draft, F_ring, F_imgs⟩ := hF
  obtain ⟨q756, q760, h756, h760, heq, hR2⟩ := r_index (now := now) (mw := mw) (mnames := mnames) hR 
  refine G_aload_n hC 1 1 rfl rfl dL_law_755 ?_
  refine G_cVi (st := []) hC _ 0 (by omega) (c_X10_index  l (by omega) e_tt H_now h756) (cwV 0 hC.hts gL_law_X10_index rfl rfl rfl (by decide +kernel) ⟨Nat.le_of_ble_eq_true rfl, Nat.le_of_ble_eq_true rfl⟩) e_tt rfl rfl (Nat.le_of_ble_eq_true rfl) (Nat.le_of_ble_eq_true rfl) (Nat.le_of_ble_eq_true rfl) rfl dL_law_756 (fun r756 enx hw => ?_)
  obtain ⟨rfl, rfl⟩ := hw
  refine G_aload_n hC 2 2 rfl rfl dL_law_759 ?_
  refine G_cVi (st := [.int q756]) hC _ 100 (by omega) (c_X11_index  l (by omega) e_model e_mwarr e_mnamesarr h760) (cwV 0 hC.hts gL_law_X11_index rfl rfl rfl (by decide +kernel) ⟨Nat.le_of_ble_eq_true rfl, Nat.le_of_ble_eq_true rfl⟩) e_model rfl rfl (Nat.le_of_ble_eq_true rfl) (Nat.le_of_ble_eq_true rfl) (Nat.le_of_ble_eq_true rfl) rfl dL_law_760 (fun r760 enx hw => ?_)
  obtain ⟨rfl, rfl⟩ := hw
  refine G_icmp_eq hC 1007 dL_law_763 (by decide) (fun _ => ?_) (fun z => absurd heq z)
  exact K _ _ _ _ _ _ _ _ _ _ _ _ _ _ _ _ _ _ _ _ _ _ _ _ _ _ _ _ _ _ _ _ _ _ _ _ _ _ _ _ _ _ _ _ _ _ _ _ _ _ _ _ ⟨e_tt, e_past, e_text, e_reader, e_rowso, e_night, e_model, e_tbytes, e_rnumarr, e_rallarr, e_nmostarr, e_mwarr, e_mnamesarr, e_mkeptarr, e_mtextarr, e_mrefusedarr, e_miwordarr, e_minamearr, e_mnumberarr, e_mleftarr, e_ringarr, e_imgarr, H_now, H_draft, F_ring, F_imgs⟩ hR2
set_option maxHeartbeats 4000000 in
set_option maxRecDepth 100000 in
theorem lc_takenFor {p : Program} {l : Launch} {e : Env} {s : State} {m : MethodId} {below : List Frame} {meth : Method} {c : Code} {D : va_G} {cs : Nat → ClassId} {sa : Nat → Nat} {ad : Nat → Nat} {b L : Nat} {xs : Nat → Int32} (hL : L ≤ 4096) (hX : va_X b L xs s s.heap) (hbl : b < s.heap.size) (hC : Ck p s m #[Value.ref b] c code 4 wsL_law RL D cs sa 110 ad (fun q => s.heap.size ≤ q)) {i : Nat} {x3 : Int32} (hi : x3 = nI i) (h8 : i + 8 ≤ L) {en1 : Nat → va_E} {keptImages : Int32} {fab : Int64} {fbe : Int64} {bads : Int32} {noes : Int32} {fulls : Int32} {now : HallV} {bl : Int32} {kp : Int32} {ring : Nat → HallV} {imgs : Nat → HallV} {tlen : Int32} {tby : Nat → Int32} {rkind : Int32} {rstart : Int32} {rbehind : Int32} {rname : Int64} {ritems : Int32} {rfault : Int32} {rrefused : Int32} {draft : HallV} {rnums : Nat → Int32} {rall : Nat → Int32} {rheld : Int32} {rsecs : Int32} {rhelp : Int32} {rna : Int32} {rout : Int32} {rmiss : Int64} {nmost : Nat → Int32} {nlearnt : Int32} {mw : Nat → Int32} {mnames : Nat → Int64} {mkept : Nat → Int32} {mtext : Nat → Int32} {mtexted : Int32} {mundo : Int32} {mabove : Int64} {mbelow : Int64} {mrefused : Nat → Int32} {miword : Nat → Int32} {miname : Nat → Int64} {mnumber : Nat → Int32} {mitems : Int32} {mat : Int32} {mfault : Int32} {mtakes : Int32} {mmisses : Int64} {mbest : Int64} {mleft : Nat → Int32} {mh : Int64} (hF : LFacts cs ad en1 keptImages fab fbe bads noes fulls now bl kp ring imgs tlen tby rkind rstart rbehind rname ritems rfault rrefused draft rnums rall rheld rsecs rhelp rna rout rmiss nmost nlearnt mw mnames mkept mtext mtexted mundo mabove mbelow mrefused miword miname mnumber mitems mat mfault mtakes mmisses mbest mleft mh) (hR : LRel keptImages fab fbe bads noes fulls now bl kp ring imgs tlen tby rkind rstart rbehind rname ritems rfault rrefused draft rnums rall rheld rsecs rhelp rna rout rmiss nmost nlearnt mw mnames mkept mtext mtexted mundo mabove mbelow mrefused miword miname mnumber mitems mat mfault mtakes mmisses mbest mleft mh) (K : ∀ (en2 : Nat → va_E) (keptImages : Int32) (fab : Int64) (fbe : Int64) (bads : Int32) (noes : Int32) (fulls : Int32) (now : HallV) (bl : Int32) (kp : Int32) (ring : Nat → HallV) (imgs : Nat → HallV) (tlen : Int32) (tby : Nat → Int32) (rkind : Int32) (rstart : Int32) (rbehind : Int32) (rname : Int64) (ritems : Int32) (rfault : Int32) (rrefused : Int32) (draft : HallV) (rnums : Nat → Int32) (rall : Nat → Int32) (rheld : Int32) (rsecs : Int32) (rhelp : Int32) (rna : Int32) (rout : Int32) (rmiss : Int64) (nmost : Nat → Int32) (nlearnt : Int32) (mw : Nat → Int32) (mnames : Nat → Int64) (mkept : Nat → Int32) (mtext : Nat → Int32) (mtexted : Int32) (mundo : Int32) (mabove : Int64) (mbelow : Int64) (mrefused : Nat → Int32) (miword : Nat → Int32) (miname : Nat → Int64) (mnumber : Nat → Int32) (mitems : Int32) (mat : Int32) (mfault : Int32) (mtakes : Int32) (mmisses : Int64) (mbest : Int64) (mleft : Nat → Int32) (mh : Int64), LFacts cs ad en2 keptImages fab fbe bads noes fulls now bl kp ring imgs tlen tby rkind rstart rbehind rname ritems rfault rrefused draft rnums rall rheld rsecs rhelp rna rout rmiss nmost nlearnt mw mnames mkept mtext mtexted mundo mabove mbelow mrefused miword miname mnumber mitems mat mfault mtakes mmisses mbest mleft mh → LRel keptImages fab fbe bads noes fulls now bl kp ring imgs tlen tby rkind rstart rbehind rname ritems rfault rrefused draft rnums rall rheld rsecs rhelp rna rout rmiss nmost nlearnt mw mnames mkept mtext mtexted mundo mabove mbelow mrefused miword miname mnumber mitems mat mfault mtakes mmisses mbest mleft mh → G p l e room_1 s m #[Value.ref b] below meth c D 110 ad (fun q => s.heap.size ≤ q) 4 110 6275 (lw_Z below #[Value.ref b] s) en2 1007 [(0, .ref b), (1, .ref (ad 0)), (2, .ref (ad 100)), (3, .int x3)] []) : G p l e room_1 s m #[Value.ref b] below meth c D 110 ad (fun q => s.heap.size ≤ q) 4 110 6275 (lw_Z below #[Value.ref b] s) en1 768 [(0, .ref b), (1, .ref (ad 0)), (2, .ref (ad 100)), (3, .int x3)] [] := by
  have hbA : ¬ (fun q => s.heap.size ≤ q) b := Nat.not_le.mpr hbl
  obtain ⟨e_tt, e_past, e_text, e_reader, e_rowso, e_night, e_model, e_tbytes, e_rnumarr, e_rallarr, e_nmostarr, e_mwarr, e_mnamesarr, e_mkeptarr, e_mtextarr, e_mrefusedarr, e_miwordarr, e_minamearr, e_mnumberarr, e_mleftarr, e_ringarr, e_imgarr, H_now, H_draft, F_ring, F_imgs⟩ := hF
  obtain ⟨q779, q793, h779, h793, heq, hR2⟩ := r_takenFor (bads := bads) (noes := noes) (fulls := fulls) (now := now) (mw := mw) (mnames := mnames) (mrefused := mrefused) hR (xs (x3 + (1 : Int32)).toNatClampNeg) (xs (x3 + (2 : Int32)).toNatClampNeg)
  refine G_aload_n hC 1 1 rfl rfl dL_law_768 ?_
  refine G_aload_n hC 0 0 rfl rfl dL_law_769 ?_
  refine G_iload_n hC 3 3 rfl rfl dL_law_770 ?_
  refine G_iconst hC (v := 1) (by decide) dL_law_771 ?_
  refine G_iadd hC dL_law_772 ?_
  refine G_sld hC hX hbl hbA (vin hi h8 hL 1 (by decide)) dL_law_773 ?_
  refine G_aload_n hC 0 0 rfl rfl dL_law_774 ?_
  refine G_iload_n hC 3 3 rfl rfl dL_law_775 ?_
  refine G_iconst hC (v := 2) (by decide) dL_law_776 ?_
  refine G_iadd hC dL_law_777 ?_
  refine G_sld hC hX hbl hbA (vin hi h8 hL 2 (by decide)) dL_law_778 ?_
  refine G_cVi (st := []) hC _ 0 (by omega) (c_X10_takenFor  l (by omega) e_tt H_now h779) (cwV 2 hC.hts gL_law_X10_takenFor rfl rfl rfl (by decide +kernel) ⟨Nat.le_of_ble_eq_true rfl, Nat.le_of_ble_eq_true rfl⟩) e_tt rfl rfl (Nat.le_of_ble_eq_true rfl) (Nat.le_of_ble_eq_true rfl) (Nat.le_of_ble_eq_true rfl) rfl dL_law_779 (fun r779 en2 hw => ?_)
  obtain ⟨rfl, e_tt, fr⟩ := hw
  have e_past := (fr 12 (by omega)).trans e_past
  have e_text := (fr 81 (by omega)).trans e_text
  have e_reader := (fr 83 (by omega)).trans e_reader
  have e_rowso := (fr 96 (by omega)).trans e_rowso
  have e_night := (fr 98 (by omega)).trans e_night
  have e_model := (fr 100 (by omega)).trans e_model
  have e_tbytes := (fr 82 (by omega)).trans e_tbytes
  have e_rnumarr := (fr 95 (by omega)).trans e_rnumarr
  have e_rallarr := (fr 97 (by omega)).trans e_rallarr
  have e_nmostarr := (fr 99 (by omega)).trans e_nmostarr
  have e_mwarr := (fr 101 (by omega)).trans e_mwarr
  have e_mnamesarr := (fr 102 (by omega)).trans e_mnamesarr
  have e_mkeptarr := (fr 103 (by omega)).trans e_mkeptarr
  have e_mtextarr := (fr 104 (by omega)).trans e_mtextarr
  have e_mrefusedarr := (fr 105 (by omega)).trans e_mrefusedarr
  have e_miwordarr := (fr 106 (by omega)).trans e_miwordarr
  have e_minamearr := (fr 107 (by omega)).trans e_minamearr
  have e_mnumberarr := (fr 108 (by omega)).trans e_mnumberarr
  have e_mleftarr := (fr 109 (by omega)).trans e_mleftarr
  have e_ringarr := (fr 13 (by omega)).trans e_ringarr
  have e_imgarr := (fr 58 (by omega)).trans e_imgarr
  have H_now := H_now.fr (fun j h1 h2 => fr j (by omega))
  have H_draft := H_draft.fr (fun j h1 h2 => fr j (by omega))
  have F_ring := fun i (hi : i < 4) => (F_ring i hi).fr (fun j h1 h2 => fr j (by omega))
  have F_imgs := fun i (hi : i < 2) => (F_imgs i hi).fr (fun j h1 h2 => fr j (by omega))
  refine G_aload_n hC 2 2 rfl rfl dL_law_782 ?_
  refine G_aload_n hC 0 0 rfl rfl dL_law_783 ?_
  refine G_iload_n hC 3 3 rfl rfl dL_law_784 ?_
  refine G_iconst hC (v := 1) (by decide) dL_law_785 ?_
  refine G_iadd hC dL_law_786 ?_
  refine G_sld hC hX hbl hbA (vin hi h8 hL 1 (by decide)) dL_law_787 ?_
  refine G_aload_n hC 0 0 rfl rfl dL_law_788 ?_
  refine G_iload_n hC 3 3 rfl rfl dL_law_789 ?_
  refine G_iconst hC (v := 2) (by decide) dL_law_790 ?_
  refine G_iadd hC dL_law_791 ?_
  refine G_sld hC hX hbl hbA (vin hi h8 hL 2 (by decide)) dL_law_792 ?_
  refine G_cVi (st := [.int q779.1]) hC _ 100 (by omega) (c_X11_takenFor  l (by omega) e_model e_mwarr e_mnamesarr e_mrefusedarr h793) (cwV 2 hC.hts gL_law_X11_takenFor rfl rfl rfl (by decide +kernel) ⟨Nat.le_of_ble_eq_true rfl, Nat.le_of_ble_eq_true rfl⟩) e_model rfl rfl (Nat.le_of_ble_eq_true rfl) (Nat.le_of_ble_eq_true rfl) (Nat.le_of_ble_eq_true rfl) rfl dL_law_793 (fun r793 en3 hw => ?_)
  obtain ⟨rfl, e_mrefusedarr, fr⟩ := hw
  have e_tt := (fr 0 (by omega)).trans e_tt
  have e_past := (fr 12 (by omega)).trans e_past
  have e_text := (fr 81 (by omega)).trans e_text
  have e_reader := (fr 83 (by omega)).trans e_reader
  have e_rowso := (fr 96 (by omega)).trans e_rowso
  have e_night := (fr 98 (by omega)).trans e_night
  have e_model := (fr 100 (by omega)).trans e_model
  have e_tbytes := (fr 82 (by omega)).trans e_tbytes
  have e_rnumarr := (fr 95 (by omega)).trans e_rnumarr
  have e_rallarr := (fr 97 (by omega)).trans e_rallarr
  have e_nmostarr := (fr 99 (by omega)).trans e_nmostarr
  have e_mwarr := (fr 101 (by omega)).trans e_mwarr
  have e_mnamesarr := (fr 102 (by omega)).trans e_mnamesarr
  have e_mkeptarr := (fr 103 (by omega)).trans e_mkeptarr
  have e_mtextarr := (fr 104 (by omega)).trans e_mtextarr
  have e_miwordarr := (fr 106 (by omega)).trans e_miwordarr
  have e_minamearr := (fr 107 (by omega)).trans e_minamearr
  have e_mnumberarr := (fr 108 (by omega)).trans e_mnumberarr
  have e_mleftarr := (fr 109 (by omega)).trans e_mleftarr
  have e_ringarr := (fr 13 (by omega)).trans e_ringarr
  have e_imgarr := (fr 58 (by omega)).trans e_imgarr
  have H_now := H_now.fr (fun j h1 h2 => fr j (by omega))
  have H_draft := H_draft.fr (fun j h1 h2 => fr j (by omega))
  have F_ring := fun i (hi : i < 4) => (F_ring i hi).fr (fun j h1 h2 => fr j (by omega))
  have F_imgs := fun i (hi : i < 2) => (F_imgs i hi).fr (fun j h1 h2 => fr j (by omega))
  refine G_icmp_eq hC 1007 dL_law_796 (by decide) (fun _ => ?_) (fun z => absurd heq z)
  exact K _ _ _ _ _ _ _ _ _ _ _ _ _ _ _ _ _ _ _ _ _ _ _ _ _ _ _ _ _ _ _ _ _ _ _ _ _ _ _ _ _ _ _ _ _ _ _ _ _ _ _ _ ⟨e_tt, e_past, e_text, e_reader, e_rowso, e_night, e_model, e_tbytes, e_rnumarr, e_rallarr, e_nmostarr, e_mwarr, e_mnamesarr, e_mkeptarr, e_mtextarr, e_mrefusedarr, e_miwordarr, e_minamearr, e_mnumberarr, e_mleftarr, e_ringarr, e_imgarr, H_now, H_draft, F_ring, F_imgs⟩ hR2
set_option maxHeartbeats 4000000 in
set_option maxRecDepth 100000 in
theorem lc_learn {p : Program} {l : Launch} {e : Env} {s : State} {m : MethodId} {below : List Frame} {meth : Method} {c : Code} {D : va_G} {cs : Nat → ClassId} {sa : Nat → Nat} {ad : Nat → Nat} {b L : Nat} {xs : Nat → Int32} (hL : L ≤ 4096) (hX : va_X b L xs s s.heap) (hbl : b < s.heap.size) (hC : Ck p s m #[Value.ref b] c code 4 wsL_law RL D cs sa 110 ad (fun q => s.heap.size ≤ q)) {i : Nat} {x3 : Int32} (hi : x3 = nI i) (h8 : i + 8 ≤ L) {en1 : Nat → va_E} {keptImages : Int32} {fab : Int64} {fbe : Int64} {bads : Int32} {noes : Int32} {fulls : Int32} {now : HallV} {bl : Int32} {kp : Int32} {ring : Nat → HallV} {imgs : Nat → HallV} {tlen : Int32} {tby : Nat → Int32} {rkind : Int32} {rstart : Int32} {rbehind : Int32} {rname : Int64} {ritems : Int32} {rfault : Int32} {rrefused : Int32} {draft : HallV} {rnums : Nat → Int32} {rall : Nat → Int32} {rheld : Int32} {rsecs : Int32} {rhelp : Int32} {rna : Int32} {rout : Int32} {rmiss : Int64} {nmost : Nat → Int32} {nlearnt : Int32} {mw : Nat → Int32} {mnames : Nat → Int64} {mkept : Nat → Int32} {mtext : Nat → Int32} {mtexted : Int32} {mundo : Int32} {mabove : Int64} {mbelow : Int64} {mrefused : Nat → Int32} {miword : Nat → Int32} {miname : Nat → Int64} {mnumber : Nat → Int32} {mitems : Int32} {mat : Int32} {mfault : Int32} {mtakes : Int32} {mmisses : Int64} {mbest : Int64} {mleft : Nat → Int32} {mh : Int64} (hF : LFacts cs ad en1 keptImages fab fbe bads noes fulls now bl kp ring imgs tlen tby rkind rstart rbehind rname ritems rfault rrefused draft rnums rall rheld rsecs rhelp rna rout rmiss nmost nlearnt mw mnames mkept mtext mtexted mundo mabove mbelow mrefused miword miname mnumber mitems mat mfault mtakes mmisses mbest mleft mh) (hR : LRel keptImages fab fbe bads noes fulls now bl kp ring imgs tlen tby rkind rstart rbehind rname ritems rfault rrefused draft rnums rall rheld rsecs rhelp rna rout rmiss nmost nlearnt mw mnames mkept mtext mtexted mundo mabove mbelow mrefused miword miname mnumber mitems mat mfault mtakes mmisses mbest mleft mh) (K : ∀ (en2 : Nat → va_E) (keptImages : Int32) (fab : Int64) (fbe : Int64) (bads : Int32) (noes : Int32) (fulls : Int32) (now : HallV) (bl : Int32) (kp : Int32) (ring : Nat → HallV) (imgs : Nat → HallV) (tlen : Int32) (tby : Nat → Int32) (rkind : Int32) (rstart : Int32) (rbehind : Int32) (rname : Int64) (ritems : Int32) (rfault : Int32) (rrefused : Int32) (draft : HallV) (rnums : Nat → Int32) (rall : Nat → Int32) (rheld : Int32) (rsecs : Int32) (rhelp : Int32) (rna : Int32) (rout : Int32) (rmiss : Int64) (nmost : Nat → Int32) (nlearnt : Int32) (mw : Nat → Int32) (mnames : Nat → Int64) (mkept : Nat → Int32) (mtext : Nat → Int32) (mtexted : Int32) (mundo : Int32) (mabove : Int64) (mbelow : Int64) (mrefused : Nat → Int32) (miword : Nat → Int32) (miname : Nat → Int64) (mnumber : Nat → Int32) (mitems : Int32) (mat : Int32) (mfault : Int32) (mtakes : Int32) (mmisses : Int64) (mbest : Int64) (mleft : Nat → Int32) (mh : Int64), LFacts cs ad en2 keptImages fab fbe bads noes fulls now bl kp ring imgs tlen tby rkind rstart rbehind rname ritems rfault rrefused draft rnums rall rheld rsecs rhelp rna rout rmiss nmost nlearnt mw mnames mkept mtext mtexted mundo mabove mbelow mrefused miword miname mnumber mitems mat mfault mtakes mmisses mbest mleft mh → LRel keptImages fab fbe bads noes fulls now bl kp ring imgs tlen tby rkind rstart rbehind rname ritems rfault rrefused draft rnums rall rheld rsecs rhelp rna rout rmiss nmost nlearnt mw mnames mkept mtext mtexted mundo mabove mbelow mrefused miword miname mnumber mitems mat mfault mtakes mmisses mbest mleft mh → G p l e room_1 s m #[Value.ref b] below meth c D 110 ad (fun q => s.heap.size ≤ q) 4 110 6275 (lw_Z below #[Value.ref b] s) en2 1007 [(0, .ref b), (1, .ref (ad 0)), (2, .ref (ad 100)), (3, .int x3)] []) : G p l e room_1 s m #[Value.ref b] below meth c D 110 ad (fun q => s.heap.size ≤ q) 4 110 6275 (lw_Z below #[Value.ref b] s) en1 801 [(0, .ref b), (1, .ref (ad 0)), (2, .ref (ad 100)), (3, .int x3)] [] := by
  have hbA : ¬ (fun q => s.heap.size ≤ q) b := Nat.not_le.mpr hbl
  obtain ⟨e_tt, e_past, e_text, e_reader, e_rowso, e_night, e_model, e_tbytes, e_rnumarr, e_rallarr, e_nmostarr, e_mwarr, e_mnamesarr, e_mkeptarr, e_mtextarr, e_mrefusedarr, e_miwordarr, e_minamearr, e_mnumberarr, e_mleftarr, e_ringarr, e_imgarr, H_now, H_draft, F_ring, F_imgs⟩ := hF
  obtain ⟨q817, q836, h817, h836, heq, hR2⟩ := r_learn (bads := bads) (noes := noes) (fulls := fulls) (now := now) (nmost := nmost) (nlearnt := nlearnt) (mw := mw) (mnames := mnames) (mrefused := mrefused) (mleft := mleft) hR (xs (x3 + (1 : Int32)).toNatClampNeg) (xs (x3 + (2 : Int32)).toNatClampNeg) (xs (x3 + (3 : Int32)).toNatClampNeg)
  refine G_aload_n hC 1 1 rfl rfl dL_law_801 ?_
  refine G_aload_n hC 0 0 rfl rfl dL_law_802 ?_
  refine G_iload_n hC 3 3 rfl rfl dL_law_803 ?_
  refine G_iconst hC (v := 1) (by decide) dL_law_804 ?_
  refine G_iadd hC dL_law_805 ?_
  refine G_sld hC hX hbl hbA (vin hi h8 hL 1 (by decide)) dL_law_806 ?_
  refine G_aload_n hC 0 0 rfl rfl dL_law_807 ?_
  refine G_iload_n hC 3 3 rfl rfl dL_law_808 ?_
  refine G_iconst hC (v := 2) (by decide) dL_law_809 ?_
  refine G_iadd hC dL_law_810 ?_
  refine G_sld hC hX hbl hbA (vin hi h8 hL 2 (by decide)) dL_law_811 ?_
  refine G_aload_n hC 0 0 rfl rfl dL_law_812 ?_
  refine G_iload_n hC 3 3 rfl rfl dL_law_813 ?_
  refine G_iconst hC (v := 3) (by decide) dL_law_814 ?_
  refine G_iadd hC dL_law_815 ?_
  refine G_sld hC hX hbl hbA (vin hi h8 hL 3 (by decide)) dL_law_816 ?_
  refine G_cVi (st := []) hC _ 0 (by omega) (c_X10_learn  l (by omega) e_tt e_night e_nmostarr H_now h817) (cwV 3 hC.hts gL_law_X10_learn rfl rfl rfl (by decide +kernel) ⟨Nat.le_of_ble_eq_true rfl, Nat.le_of_ble_eq_true rfl⟩) e_tt rfl rfl (Nat.le_of_ble_eq_true rfl) (Nat.le_of_ble_eq_true rfl) (Nat.le_of_ble_eq_true rfl) rfl dL_law_817 (fun r817 en2 hw => ?_)
  obtain ⟨rfl, e_tt, e_night, e_nmostarr, fr⟩ := hw
  have e_past := (fr 12 (by omega) (by omega) (by omega)).trans e_past
  have e_text := (fr 81 (by omega) (by omega) (by omega)).trans e_text
  have e_reader := (fr 83 (by omega) (by omega) (by omega)).trans e_reader
  have e_rowso := (fr 96 (by omega) (by omega) (by omega)).trans e_rowso
  have e_model := (fr 100 (by omega) (by omega) (by omega)).trans e_model
  have e_tbytes := (fr 82 (by omega) (by omega) (by omega)).trans e_tbytes
  have e_rnumarr := (fr 95 (by omega) (by omega) (by omega)).trans e_rnumarr
  have e_rallarr := (fr 97 (by omega) (by omega) (by omega)).trans e_rallarr
  have e_mwarr := (fr 101 (by omega) (by omega) (by omega)).trans e_mwarr
  have e_mnamesarr := (fr 102 (by omega) (by omega) (by omega)).trans e_mnamesarr
  have e_mkeptarr := (fr 103 (by omega) (by omega) (by omega)).trans e_mkeptarr
  have e_mtextarr := (fr 104 (by omega) (by omega) (by omega)).trans e_mtextarr
  have e_mrefusedarr := (fr 105 (by omega) (by omega) (by omega)).trans e_mrefusedarr
  have e_miwordarr := (fr 106 (by omega) (by omega) (by omega)).trans e_miwordarr
  have e_minamearr := (fr 107 (by omega) (by omega) (by omega)).trans e_minamearr
  have e_mnumberarr := (fr 108 (by omega) (by omega) (by omega)).trans e_mnumberarr
  have e_mleftarr := (fr 109 (by omega) (by omega) (by omega)).trans e_mleftarr
  have e_ringarr := (fr 13 (by omega) (by omega) (by omega)).trans e_ringarr
  have e_imgarr := (fr 58 (by omega) (by omega) (by omega)).trans e_imgarr
  have H_now := H_now.fr (fun j h1 h2 => fr j (by omega) (by omega) (by omega))
  have H_draft := H_draft.fr (fun j h1 h2 => fr j (by omega) (by omega) (by omega))
  have F_ring := fun i (hi : i < 4) => (F_ring i hi).fr (fun j h1 h2 => fr j (by omega) (by omega) (by omega))
  have F_imgs := fun i (hi : i < 2) => (F_imgs i hi).fr (fun j h1 h2 => fr j (by omega) (by omega) (by omega))
  refine G_aload_n hC 2 2 rfl rfl dL_law_820 ?_
  refine G_aload_n hC 0 0 rfl rfl dL_law_821 ?_
  refine G_iload_n hC 3 3 rfl rfl dL_law_822 ?_
  refine G_iconst hC (v := 1) (by decide) dL_law_823 ?_
  refine G_iadd hC dL_law_824 ?_
  refine G_sld hC hX hbl hbA (vin hi h8 hL 1 (by decide)) dL_law_825 ?_
  refine G_aload_n hC 0 0 rfl rfl dL_law_826 ?_
  refine G_iload_n hC 3 3 rfl rfl dL_law_827 ?_
  refine G_iconst hC (v := 2) (by decide) dL_law_828 ?_
  refine G_iadd hC dL_law_829 ?_
  refine G_sld hC hX hbl hbA (vin hi h8 hL 2 (by decide)) dL_law_830 ?_
  refine G_aload_n hC 0 0 rfl rfl dL_law_831 ?_
  refine G_iload_n hC 3 3 rfl rfl dL_law_832 ?_
  refine G_iconst hC (v := 3) (by decide) dL_law_833 ?_
  refine G_iadd hC dL_law_834 ?_
  refine G_sld hC hX hbl hbA (vin hi h8 hL 3 (by decide)) dL_law_835 ?_
  refine G_cVi (st := [.int q817.1]) hC _ 100 (by omega) (c_X11_learn  l (by omega) e_model e_mwarr e_mnamesarr e_mrefusedarr e_mleftarr h836) (cwV 3 hC.hts gL_law_X11_learn rfl rfl rfl (by decide +kernel) ⟨Nat.le_of_ble_eq_true rfl, Nat.le_of_ble_eq_true rfl⟩) e_model rfl rfl (Nat.le_of_ble_eq_true rfl) (Nat.le_of_ble_eq_true rfl) (Nat.le_of_ble_eq_true rfl) rfl dL_law_836 (fun r836 en3 hw => ?_)
  obtain ⟨rfl, e_mrefusedarr, e_mleftarr, fr⟩ := hw
  have e_tt := (fr 0 (by omega) (by omega)).trans e_tt
  have e_past := (fr 12 (by omega) (by omega)).trans e_past
  have e_text := (fr 81 (by omega) (by omega)).trans e_text
  have e_reader := (fr 83 (by omega) (by omega)).trans e_reader
  have e_rowso := (fr 96 (by omega) (by omega)).trans e_rowso
  have e_night := (fr 98 (by omega) (by omega)).trans e_night
  have e_model := (fr 100 (by omega) (by omega)).trans e_model
  have e_tbytes := (fr 82 (by omega) (by omega)).trans e_tbytes
  have e_rnumarr := (fr 95 (by omega) (by omega)).trans e_rnumarr
  have e_rallarr := (fr 97 (by omega) (by omega)).trans e_rallarr
  have e_nmostarr := (fr 99 (by omega) (by omega)).trans e_nmostarr
  have e_mwarr := (fr 101 (by omega) (by omega)).trans e_mwarr
  have e_mnamesarr := (fr 102 (by omega) (by omega)).trans e_mnamesarr
  have e_mkeptarr := (fr 103 (by omega) (by omega)).trans e_mkeptarr
  have e_mtextarr := (fr 104 (by omega) (by omega)).trans e_mtextarr
  have e_miwordarr := (fr 106 (by omega) (by omega)).trans e_miwordarr
  have e_minamearr := (fr 107 (by omega) (by omega)).trans e_minamearr
  have e_mnumberarr := (fr 108 (by omega) (by omega)).trans e_mnumberarr
  have e_ringarr := (fr 13 (by omega) (by omega)).trans e_ringarr
  have e_imgarr := (fr 58 (by omega) (by omega)).trans e_imgarr
  have H_now := H_now.fr (fun j h1 h2 => fr j (by omega) (by omega))
  have H_draft := H_draft.fr (fun j h1 h2 => fr j (by omega) (by omega))
  have F_ring := fun i (hi : i < 4) => (F_ring i hi).fr (fun j h1 h2 => fr j (by omega) (by omega))
  have F_imgs := fun i (hi : i < 2) => (F_imgs i hi).fr (fun j h1 h2 => fr j (by omega) (by omega))
  refine G_icmp_eq hC 1007 dL_law_839 (by decide) (fun _ => ?_) (fun z => absurd heq z)
  exact K _ _ _ _ _ _ _ _ _ _ _ _ _ _ _ _ _ _ _ _ _ _ _ _ _ _ _ _ _ _ _ _ _ _ _ _ _ _ _ _ _ _ _ _ _ _ _ _ _ _ _ _ ⟨e_tt, e_past, e_text, e_reader, e_rowso, e_night, e_model, e_tbytes, e_rnumarr, e_rallarr, e_nmostarr, e_mwarr, e_mnamesarr, e_mkeptarr, e_mtextarr, e_mrefusedarr, e_miwordarr, e_minamearr, e_mnumberarr, e_mleftarr, e_ringarr, e_imgarr, H_now, H_draft, F_ring, F_imgs⟩ hR2
set_option maxHeartbeats 4000000 in
set_option maxRecDepth 100000 in
theorem lc_rests {p : Program} {l : Launch} {e : Env} {s : State} {m : MethodId} {below : List Frame} {meth : Method} {c : Code} {D : va_G} {cs : Nat → ClassId} {sa : Nat → Nat} {ad : Nat → Nat} {b L : Nat} {xs : Nat → Int32} (hL : L ≤ 4096) (hX : va_X b L xs s s.heap) (hbl : b < s.heap.size) (hC : Ck p s m #[Value.ref b] c code 4 wsL_law RL D cs sa 110 ad (fun q => s.heap.size ≤ q)) {i : Nat} {x3 : Int32} (hi : x3 = nI i) (h8 : i + 8 ≤ L) {en1 : Nat → va_E} {keptImages : Int32} {fab : Int64} {fbe : Int64} {bads : Int32} {noes : Int32} {fulls : Int32} {now : HallV} {bl : Int32} {kp : Int32} {ring : Nat → HallV} {imgs : Nat → HallV} {tlen : Int32} {tby : Nat → Int32} {rkind : Int32} {rstart : Int32} {rbehind : Int32} {rname : Int64} {ritems : Int32} {rfault : Int32} {rrefused : Int32} {draft : HallV} {rnums : Nat → Int32} {rall : Nat → Int32} {rheld : Int32} {rsecs : Int32} {rhelp : Int32} {rna : Int32} {rout : Int32} {rmiss : Int64} {nmost : Nat → Int32} {nlearnt : Int32} {mw : Nat → Int32} {mnames : Nat → Int64} {mkept : Nat → Int32} {mtext : Nat → Int32} {mtexted : Int32} {mundo : Int32} {mabove : Int64} {mbelow : Int64} {mrefused : Nat → Int32} {miword : Nat → Int32} {miname : Nat → Int64} {mnumber : Nat → Int32} {mitems : Int32} {mat : Int32} {mfault : Int32} {mtakes : Int32} {mmisses : Int64} {mbest : Int64} {mleft : Nat → Int32} {mh : Int64} (hF : LFacts cs ad en1 keptImages fab fbe bads noes fulls now bl kp ring imgs tlen tby rkind rstart rbehind rname ritems rfault rrefused draft rnums rall rheld rsecs rhelp rna rout rmiss nmost nlearnt mw mnames mkept mtext mtexted mundo mabove mbelow mrefused miword miname mnumber mitems mat mfault mtakes mmisses mbest mleft mh) (hR : LRel keptImages fab fbe bads noes fulls now bl kp ring imgs tlen tby rkind rstart rbehind rname ritems rfault rrefused draft rnums rall rheld rsecs rhelp rna rout rmiss nmost nlearnt mw mnames mkept mtext mtexted mundo mabove mbelow mrefused miword miname mnumber mitems mat mfault mtakes mmisses mbest mleft mh) (K : ∀ (en2 : Nat → va_E) (keptImages : Int32) (fab : Int64) (fbe : Int64) (bads : Int32) (noes : Int32) (fulls : Int32) (now : HallV) (bl : Int32) (kp : Int32) (ring : Nat → HallV) (imgs : Nat → HallV) (tlen : Int32) (tby : Nat → Int32) (rkind : Int32) (rstart : Int32) (rbehind : Int32) (rname : Int64) (ritems : Int32) (rfault : Int32) (rrefused : Int32) (draft : HallV) (rnums : Nat → Int32) (rall : Nat → Int32) (rheld : Int32) (rsecs : Int32) (rhelp : Int32) (rna : Int32) (rout : Int32) (rmiss : Int64) (nmost : Nat → Int32) (nlearnt : Int32) (mw : Nat → Int32) (mnames : Nat → Int64) (mkept : Nat → Int32) (mtext : Nat → Int32) (mtexted : Int32) (mundo : Int32) (mabove : Int64) (mbelow : Int64) (mrefused : Nat → Int32) (miword : Nat → Int32) (miname : Nat → Int64) (mnumber : Nat → Int32) (mitems : Int32) (mat : Int32) (mfault : Int32) (mtakes : Int32) (mmisses : Int64) (mbest : Int64) (mleft : Nat → Int32) (mh : Int64), LFacts cs ad en2 keptImages fab fbe bads noes fulls now bl kp ring imgs tlen tby rkind rstart rbehind rname ritems rfault rrefused draft rnums rall rheld rsecs rhelp rna rout rmiss nmost nlearnt mw mnames mkept mtext mtexted mundo mabove mbelow mrefused miword miname mnumber mitems mat mfault mtakes mmisses mbest mleft mh → LRel keptImages fab fbe bads noes fulls now bl kp ring imgs tlen tby rkind rstart rbehind rname ritems rfault rrefused draft rnums rall rheld rsecs rhelp rna rout rmiss nmost nlearnt mw mnames mkept mtext mtexted mundo mabove mbelow mrefused miword miname mnumber mitems mat mfault mtakes mmisses mbest mleft mh → G p l e room_1 s m #[Value.ref b] below meth c D 110 ad (fun q => s.heap.size ≤ q) 4 110 6275 (lw_Z below #[Value.ref b] s) en2 1007 [(0, .ref b), (1, .ref (ad 0)), (2, .ref (ad 100)), (3, .int x3)] []) : G p l e room_1 s m #[Value.ref b] below meth c D 110 ad (fun q => s.heap.size ≤ q) 4 110 6275 (lw_Z below #[Value.ref b] s) en1 844 [(0, .ref b), (1, .ref (ad 0)), (2, .ref (ad 100)), (3, .int x3)] [] := by
  have hbA : ¬ (fun q => s.heap.size ≤ q) b := Nat.not_le.mpr hbl
  obtain ⟨e_tt, e_past, e_text, e_reader, e_rowso, e_night, e_model, e_tbytes, e_rnumarr, e_rallarr, e_nmostarr, e_mwarr, e_mnamesarr, e_mkeptarr, e_mtextarr, e_mrefusedarr, e_miwordarr, e_minamearr, e_mnumberarr, e_mleftarr, e_ringarr, e_imgarr, H_now, H_draft, F_ring, F_imgs⟩ := hF
  obtain ⟨q855, q869, h855, h869, heq, hR2⟩ := r_rests (bads := bads) (noes := noes) (fulls := fulls) (mrefused := mrefused) hR (xs (x3 + (1 : Int32)).toNatClampNeg) (xs (x3 + (2 : Int32)).toNatClampNeg)
  refine G_aload_n hC 1 1 rfl rfl dL_law_844 ?_
  refine G_aload_n hC 0 0 rfl rfl dL_law_845 ?_
  refine G_iload_n hC 3 3 rfl rfl dL_law_846 ?_
  refine G_iconst hC (v := 1) (by decide) dL_law_847 ?_
  refine G_iadd hC dL_law_848 ?_
  refine G_sld hC hX hbl hbA (vin hi h8 hL 1 (by decide)) dL_law_849 ?_
  refine G_aload_n hC 0 0 rfl rfl dL_law_850 ?_
  refine G_iload_n hC 3 3 rfl rfl dL_law_851 ?_
  refine G_iconst hC (v := 2) (by decide) dL_law_852 ?_
  refine G_iadd hC dL_law_853 ?_
  refine G_sld hC hX hbl hbA (vin hi h8 hL 2 (by decide)) dL_law_854 ?_
  refine G_cVi (st := []) hC _ 0 (by omega) (c_X10_rests  l (by omega) e_tt h855) (cwV 2 hC.hts gL_law_X10_rests rfl rfl rfl (by decide +kernel) ⟨Nat.le_of_ble_eq_true rfl, Nat.le_of_ble_eq_true rfl⟩) e_tt rfl rfl (Nat.le_of_ble_eq_true rfl) (Nat.le_of_ble_eq_true rfl) (Nat.le_of_ble_eq_true rfl) rfl dL_law_855 (fun r855 en2 hw => ?_)
  obtain ⟨rfl, e_tt, fr⟩ := hw
  have e_past := (fr 12 (by omega)).trans e_past
  have e_text := (fr 81 (by omega)).trans e_text
  have e_reader := (fr 83 (by omega)).trans e_reader
  have e_rowso := (fr 96 (by omega)).trans e_rowso
  have e_night := (fr 98 (by omega)).trans e_night
  have e_model := (fr 100 (by omega)).trans e_model
  have e_tbytes := (fr 82 (by omega)).trans e_tbytes
  have e_rnumarr := (fr 95 (by omega)).trans e_rnumarr
  have e_rallarr := (fr 97 (by omega)).trans e_rallarr
  have e_nmostarr := (fr 99 (by omega)).trans e_nmostarr
  have e_mwarr := (fr 101 (by omega)).trans e_mwarr
  have e_mnamesarr := (fr 102 (by omega)).trans e_mnamesarr
  have e_mkeptarr := (fr 103 (by omega)).trans e_mkeptarr
  have e_mtextarr := (fr 104 (by omega)).trans e_mtextarr
  have e_mrefusedarr := (fr 105 (by omega)).trans e_mrefusedarr
  have e_miwordarr := (fr 106 (by omega)).trans e_miwordarr
  have e_minamearr := (fr 107 (by omega)).trans e_minamearr
  have e_mnumberarr := (fr 108 (by omega)).trans e_mnumberarr
  have e_mleftarr := (fr 109 (by omega)).trans e_mleftarr
  have e_ringarr := (fr 13 (by omega)).trans e_ringarr
  have e_imgarr := (fr 58 (by omega)).trans e_imgarr
  have H_now := H_now.fr (fun j h1 h2 => fr j (by omega))
  have H_draft := H_draft.fr (fun j h1 h2 => fr j (by omega))
  have F_ring := fun i (hi : i < 4) => (F_ring i hi).fr (fun j h1 h2 => fr j (by omega))
  have F_imgs := fun i (hi : i < 2) => (F_imgs i hi).fr (fun j h1 h2 => fr j (by omega))
  refine G_aload_n hC 2 2 rfl rfl dL_law_858 ?_
  refine G_aload_n hC 0 0 rfl rfl dL_law_859 ?_
  refine G_iload_n hC 3 3 rfl rfl dL_law_860 ?_
  refine G_iconst hC (v := 1) (by decide) dL_law_861 ?_
  refine G_iadd hC dL_law_862 ?_
  refine G_sld hC hX hbl hbA (vin hi h8 hL 1 (by decide)) dL_law_863 ?_
  refine G_aload_n hC 0 0 rfl rfl dL_law_864 ?_
  refine G_iload_n hC 3 3 rfl rfl dL_law_865 ?_
  refine G_iconst hC (v := 2) (by decide) dL_law_866 ?_
  refine G_iadd hC dL_law_867 ?_
  refine G_sld hC hX hbl hbA (vin hi h8 hL 2 (by decide)) dL_law_868 ?_
  refine G_cVi (st := [.int q855.1]) hC _ 100 (by omega) (c_X11_rests  l (by omega) e_model e_mrefusedarr h869) (cwV 2 hC.hts gL_law_X11_rests rfl rfl rfl (by decide +kernel) ⟨Nat.le_of_ble_eq_true rfl, Nat.le_of_ble_eq_true rfl⟩) e_model rfl rfl (Nat.le_of_ble_eq_true rfl) (Nat.le_of_ble_eq_true rfl) (Nat.le_of_ble_eq_true rfl) rfl dL_law_869 (fun r869 en3 hw => ?_)
  obtain ⟨rfl, e_mrefusedarr, fr⟩ := hw
  have e_tt := (fr 0 (by omega)).trans e_tt
  have e_past := (fr 12 (by omega)).trans e_past
  have e_text := (fr 81 (by omega)).trans e_text
  have e_reader := (fr 83 (by omega)).trans e_reader
  have e_rowso := (fr 96 (by omega)).trans e_rowso
  have e_night := (fr 98 (by omega)).trans e_night
  have e_model := (fr 100 (by omega)).trans e_model
  have e_tbytes := (fr 82 (by omega)).trans e_tbytes
  have e_rnumarr := (fr 95 (by omega)).trans e_rnumarr
  have e_rallarr := (fr 97 (by omega)).trans e_rallarr
  have e_nmostarr := (fr 99 (by omega)).trans e_nmostarr
  have e_mwarr := (fr 101 (by omega)).trans e_mwarr
  have e_mnamesarr := (fr 102 (by omega)).trans e_mnamesarr
  have e_mkeptarr := (fr 103 (by omega)).trans e_mkeptarr
  have e_mtextarr := (fr 104 (by omega)).trans e_mtextarr
  have e_miwordarr := (fr 106 (by omega)).trans e_miwordarr
  have e_minamearr := (fr 107 (by omega)).trans e_minamearr
  have e_mnumberarr := (fr 108 (by omega)).trans e_mnumberarr
  have e_mleftarr := (fr 109 (by omega)).trans e_mleftarr
  have e_ringarr := (fr 13 (by omega)).trans e_ringarr
  have e_imgarr := (fr 58 (by omega)).trans e_imgarr
  have H_now := H_now.fr (fun j h1 h2 => fr j (by omega))
  have H_draft := H_draft.fr (fun j h1 h2 => fr j (by omega))
  have F_ring := fun i (hi : i < 4) => (F_ring i hi).fr (fun j h1 h2 => fr j (by omega))
  have F_imgs := fun i (hi : i < 2) => (F_imgs i hi).fr (fun j h1 h2 => fr j (by omega))
  refine G_icmp_eq hC 1007 dL_law_872 (by decide) (fun _ => ?_) (fun z => absurd heq z)
  exact K _ _ _ _ _ _ _ _ _ _ _ _ _ _ _ _ _ _ _ _ _ _ _ _ _ _ _ _ _ _ _ _ _ _ _ _ _ _ _ _ _ _ _ _ _ _ _ _ _ _ _ _ ⟨e_tt, e_past, e_text, e_reader, e_rowso, e_night, e_model, e_tbytes, e_rnumarr, e_rallarr, e_nmostarr, e_mwarr, e_mnamesarr, e_mkeptarr, e_mtextarr, e_mrefusedarr, e_miwordarr, e_minamearr, e_mnumberarr, e_mleftarr, e_ringarr, e_imgarr, H_now, H_draft, F_ring, F_imgs⟩ hR2
set_option maxHeartbeats 4000000 in
set_option maxRecDepth 100000 in
theorem lc_part {p : Program} {l : Launch} {e : Env} {s : State} {m : MethodId} {below : List Frame} {meth : Method} {c : Code} {D : va_G} {cs : Nat → ClassId} {sa : Nat → Nat} {ad : Nat → Nat} {b L : Nat} {xs : Nat → Int32} (hL : L ≤ 4096) (hX : va_X b L xs s s.heap) (hbl : b < s.heap.size) (hC : Ck p s m #[Value.ref b] c code 4 wsL_law RL D cs sa 110 ad (fun q => s.heap.size ≤ q)) {i : Nat} {x3 : Int32} (hi : x3 = nI i) (h8 : i + 8 ≤ L) {en1 : Nat → va_E} {keptImages : Int32} {fab : Int64} {fbe : Int64} {bads : Int32} {noes : Int32} {fulls : Int32} {now : HallV} {bl : Int32} {kp : Int32} {ring : Nat → HallV} {imgs : Nat → HallV} {tlen : Int32} {tby : Nat → Int32} {rkind : Int32} {rstart : Int32} {rbehind : Int32} {rname : Int64} {ritems : Int32} {rfault : Int32} {rrefused : Int32} {draft : HallV} {rnums : Nat → Int32} {rall : Nat → Int32} {rheld : Int32} {rsecs : Int32} {rhelp : Int32} {rna : Int32} {rout : Int32} {rmiss : Int64} {nmost : Nat → Int32} {nlearnt : Int32} {mw : Nat → Int32} {mnames : Nat → Int64} {mkept : Nat → Int32} {mtext : Nat → Int32} {mtexted : Int32} {mundo : Int32} {mabove : Int64} {mbelow : Int64} {mrefused : Nat → Int32} {miword : Nat → Int32} {miname : Nat → Int64} {mnumber : Nat → Int32} {mitems : Int32} {mat : Int32} {mfault : Int32} {mtakes : Int32} {mmisses : Int64} {mbest : Int64} {mleft : Nat → Int32} {mh : Int64} (hF : LFacts cs ad en1 keptImages fab fbe bads noes fulls now bl kp ring imgs tlen tby rkind rstart rbehind rname ritems rfault rrefused draft rnums rall rheld rsecs rhelp rna rout rmiss nmost nlearnt mw mnames mkept mtext mtexted mundo mabove mbelow mrefused miword miname mnumber mitems mat mfault mtakes mmisses mbest mleft mh) (hR : LRel keptImages fab fbe bads noes fulls now bl kp ring imgs tlen tby rkind rstart rbehind rname ritems rfault rrefused draft rnums rall rheld rsecs rhelp rna rout rmiss nmost nlearnt mw mnames mkept mtext mtexted mundo mabove mbelow mrefused miword miname mnumber mitems mat mfault mtakes mmisses mbest mleft mh) (K : ∀ (en2 : Nat → va_E) (keptImages : Int32) (fab : Int64) (fbe : Int64) (bads : Int32) (noes : Int32) (fulls : Int32) (now : HallV) (bl : Int32) (kp : Int32) (ring : Nat → HallV) (imgs : Nat → HallV) (tlen : Int32) (tby : Nat → Int32) (rkind : Int32) (rstart : Int32) (rbehind : Int32) (rname : Int64) (ritems : Int32) (rfault : Int32) (rrefused : Int32) (draft : HallV) (rnums : Nat → Int32) (rall : Nat → Int32) (rheld : Int32) (rsecs : Int32) (rhelp : Int32) (rna : Int32) (rout : Int32) (rmiss : Int64) (nmost : Nat → Int32) (nlearnt : Int32) (mw : Nat → Int32) (mnames : Nat → Int64) (mkept : Nat → Int32) (mtext : Nat → Int32) (mtexted : Int32) (mundo : Int32) (mabove : Int64) (mbelow : Int64) (mrefused : Nat → Int32) (miword : Nat → Int32) (miname : Nat → Int64) (mnumber : Nat → Int32) (mitems : Int32) (mat : Int32) (mfault : Int32) (mtakes : Int32) (mmisses : Int64) (mbest : Int64) (mleft : Nat → Int32) (mh : Int64), LFacts cs ad en2 keptImages fab fbe bads noes fulls now bl kp ring imgs tlen tby rkind rstart rbehind rname ritems rfault rrefused draft rnums rall rheld rsecs rhelp rna rout rmiss nmost nlearnt mw mnames mkept mtext mtexted mundo mabove mbelow mrefused miword miname mnumber mitems mat mfault mtakes mmisses mbest mleft mh → LRel keptImages fab fbe bads noes fulls now bl kp ring imgs tlen tby rkind rstart rbehind rname ritems rfault rrefused draft rnums rall rheld rsecs rhelp rna rout rmiss nmost nlearnt mw mnames mkept mtext mtexted mundo mabove mbelow mrefused miword miname mnumber mitems mat mfault mtakes mmisses mbest mleft mh → G p l e room_1 s m #[Value.ref b] below meth c D 110 ad (fun q => s.heap.size ≤ q) 4 110 6275 (lw_Z below #[Value.ref b] s) en2 1007 [(0, .ref b), (1, .ref (ad 0)), (2, .ref (ad 100)), (3, .int x3)] []) : G p l e room_1 s m #[Value.ref b] below meth c D 110 ad (fun q => s.heap.size ≤ q) 4 110 6275 (lw_Z below #[Value.ref b] s) en1 877 [(0, .ref b), (1, .ref (ad 0)), (2, .ref (ad 100)), (3, .int x3)] [] := by
  have hbA : ¬ (fun q => s.heap.size ≤ q) b := Nat.not_le.mpr hbl
  obtain ⟨e_tt, e_past, e_text, e_reader, e_rowso, e_night, e_model, e_tbytes, e_rnumarr, e_rallarr, e_nmostarr, e_mwarr, e_mnamesarr, e_mkeptarr, e_mtextarr, e_mrefusedarr, e_miwordarr, e_minamearr, e_mnumberarr, e_mleftarr, e_ringarr, e_imgarr, H_now, H_draft, F_ring, F_imgs⟩ := hF
  obtain ⟨q883, q892, h883, h892, heq, hR2⟩ := r_part (fab := fab) (fbe := fbe) (bads := bads) (noes := noes) (fulls := fulls) (mabove := mabove) (mbelow := mbelow) (mrefused := mrefused) hR (xs (x3 + (1 : Int32)).toNatClampNeg)
  refine G_aload_n hC 1 1 rfl rfl dL_law_877 ?_
  refine G_aload_n hC 0 0 rfl rfl dL_law_878 ?_
  refine G_iload_n hC 3 3 rfl rfl dL_law_879 ?_
  refine G_iconst hC (v := 1) (by decide) dL_law_880 ?_
  refine G_iadd hC dL_law_881 ?_
  refine G_sld hC hX hbl hbA (vin hi h8 hL 1 (by decide)) dL_law_882 ?_
  refine G_cVl (st := []) hC _ 0 (by omega) (c_X10_part  l (by omega) e_tt h883) (cwV 1 hC.hts gL_law_X10_part rfl rfl rfl (by decide +kernel) ⟨Nat.le_of_ble_eq_true rfl, Nat.le_of_ble_eq_true rfl⟩) e_tt rfl rfl (Nat.le_of_ble_eq_true rfl) (Nat.le_of_ble_eq_true rfl) (Nat.le_of_ble_eq_true rfl) rfl dL_law_883 (fun r883 en2 hw => ?_)
  obtain ⟨rfl, e_tt, fr⟩ := hw
  have e_past := (fr 12 (by omega)).trans e_past
  have e_text := (fr 81 (by omega)).trans e_text
  have e_reader := (fr 83 (by omega)).trans e_reader
  have e_rowso := (fr 96 (by omega)).trans e_rowso
  have e_night := (fr 98 (by omega)).trans e_night
  have e_model := (fr 100 (by omega)).trans e_model
  have e_tbytes := (fr 82 (by omega)).trans e_tbytes
  have e_rnumarr := (fr 95 (by omega)).trans e_rnumarr
  have e_rallarr := (fr 97 (by omega)).trans e_rallarr
  have e_nmostarr := (fr 99 (by omega)).trans e_nmostarr
  have e_mwarr := (fr 101 (by omega)).trans e_mwarr
  have e_mnamesarr := (fr 102 (by omega)).trans e_mnamesarr
  have e_mkeptarr := (fr 103 (by omega)).trans e_mkeptarr
  have e_mtextarr := (fr 104 (by omega)).trans e_mtextarr
  have e_mrefusedarr := (fr 105 (by omega)).trans e_mrefusedarr
  have e_miwordarr := (fr 106 (by omega)).trans e_miwordarr
  have e_minamearr := (fr 107 (by omega)).trans e_minamearr
  have e_mnumberarr := (fr 108 (by omega)).trans e_mnumberarr
  have e_mleftarr := (fr 109 (by omega)).trans e_mleftarr
  have e_ringarr := (fr 13 (by omega)).trans e_ringarr
  have e_imgarr := (fr 58 (by omega)).trans e_imgarr
  have H_now := H_now.fr (fun j h1 h2 => fr j (by omega))
  have H_draft := H_draft.fr (fun j h1 h2 => fr j (by omega))
  have F_ring := fun i (hi : i < 4) => (F_ring i hi).fr (fun j h1 h2 => fr j (by omega))
  have F_imgs := fun i (hi : i < 2) => (F_imgs i hi).fr (fun j h1 h2 => fr j (by omega))
  refine G_aload_n hC 2 2 rfl rfl dL_law_886 ?_
  refine G_aload_n hC 0 0 rfl rfl dL_law_887 ?_
  refine G_iload_n hC 3 3 rfl rfl dL_law_888 ?_
  refine G_iconst hC (v := 1) (by decide) dL_law_889 ?_
  refine G_iadd hC dL_law_890 ?_
  refine G_sld hC hX hbl hbA (vin hi h8 hL 1 (by decide)) dL_law_891 ?_
  refine G_cVl (st := [.long q883.1]) hC _ 100 (by omega) (c_X11_part  l (by omega) e_model e_mrefusedarr h892) (cwV 1 hC.hts gL_law_X11_part rfl rfl rfl (by decide +kernel) ⟨Nat.le_of_ble_eq_true rfl, Nat.le_of_ble_eq_true rfl⟩) e_model rfl rfl (Nat.le_of_ble_eq_true rfl) (Nat.le_of_ble_eq_true rfl) (Nat.le_of_ble_eq_true rfl) rfl dL_law_892 (fun r892 en3 hw => ?_)
  obtain ⟨rfl, e_mrefusedarr, fr⟩ := hw
  have e_tt := (fr 0 (by omega)).trans e_tt
  have e_past := (fr 12 (by omega)).trans e_past
  have e_text := (fr 81 (by omega)).trans e_text
  have e_reader := (fr 83 (by omega)).trans e_reader
  have e_rowso := (fr 96 (by omega)).trans e_rowso
  have e_night := (fr 98 (by omega)).trans e_night
  have e_model := (fr 100 (by omega)).trans e_model
  have e_tbytes := (fr 82 (by omega)).trans e_tbytes
  have e_rnumarr := (fr 95 (by omega)).trans e_rnumarr
  have e_rallarr := (fr 97 (by omega)).trans e_rallarr
  have e_nmostarr := (fr 99 (by omega)).trans e_nmostarr
  have e_mwarr := (fr 101 (by omega)).trans e_mwarr
  have e_mnamesarr := (fr 102 (by omega)).trans e_mnamesarr
  have e_mkeptarr := (fr 103 (by omega)).trans e_mkeptarr
  have e_mtextarr := (fr 104 (by omega)).trans e_mtextarr
  have e_miwordarr := (fr 106 (by omega)).trans e_miwordarr
  have e_minamearr := (fr 107 (by omega)).trans e_minamearr
  have e_mnumberarr := (fr 108 (by omega)).trans e_mnumberarr
  have e_mleftarr := (fr 109 (by omega)).trans e_mleftarr
  have e_ringarr := (fr 13 (by omega)).trans e_ringarr
  have e_imgarr := (fr 58 (by omega)).trans e_imgarr
  have H_now := H_now.fr (fun j h1 h2 => fr j (by omega))
  have H_draft := H_draft.fr (fun j h1 h2 => fr j (by omega))
  have F_ring := fun i (hi : i < 4) => (F_ring i hi).fr (fun j h1 h2 => fr j (by omega))
  have F_imgs := fun i (hi : i < 2) => (F_imgs i hi).fr (fun j h1 h2 => fr j (by omega))
  refine G_lcmp hC dL_law_895 ?_
  refine G_if_eq hC 1007 dL_law_896 (by decide) (fun _ => ?_) (fun z => (lcmp_ne heq z).elim)
  exact K _ _ _ _ _ _ _ _ _ _ _ _ _ _ _ _ _ _ _ _ _ _ _ _ _ _ _ _ _ _ _ _ _ _ _ _ _ _ _ _ _ _ _ _ _ _ _ _ _ _ _ _ ⟨e_tt, e_past, e_text, e_reader, e_rowso, e_night, e_model, e_tbytes, e_rnumarr, e_rallarr, e_nmostarr, e_mwarr, e_mnamesarr, e_mkeptarr, e_mtextarr, e_mrefusedarr, e_miwordarr, e_minamearr, e_mnumberarr, e_mleftarr, e_ringarr, e_imgarr, H_now, H_draft, F_ring, F_imgs⟩ hR2
set_option maxHeartbeats 4000000 in
set_option maxRecDepth 100000 in
theorem lc_image {p : Program} {l : Launch} {e : Env} {s : State} {m : MethodId} {below : List Frame} {meth : Method} {c : Code} {D : va_G} {cs : Nat → ClassId} {sa : Nat → Nat} {ad : Nat → Nat} {b L : Nat} {xs : Nat → Int32} (hL : L ≤ 4096) (hX : va_X b L xs s s.heap) (hbl : b < s.heap.size) (hC : Ck p s m #[Value.ref b] c code 4 wsL_law RL D cs sa 110 ad (fun q => s.heap.size ≤ q)) {i : Nat} {x3 : Int32} (hi : x3 = nI i) (h8 : i + 8 ≤ L) {en1 : Nat → va_E} {keptImages : Int32} {fab : Int64} {fbe : Int64} {bads : Int32} {noes : Int32} {fulls : Int32} {now : HallV} {bl : Int32} {kp : Int32} {ring : Nat → HallV} {imgs : Nat → HallV} {tlen : Int32} {tby : Nat → Int32} {rkind : Int32} {rstart : Int32} {rbehind : Int32} {rname : Int64} {ritems : Int32} {rfault : Int32} {rrefused : Int32} {draft : HallV} {rnums : Nat → Int32} {rall : Nat → Int32} {rheld : Int32} {rsecs : Int32} {rhelp : Int32} {rna : Int32} {rout : Int32} {rmiss : Int64} {nmost : Nat → Int32} {nlearnt : Int32} {mw : Nat → Int32} {mnames : Nat → Int64} {mkept : Nat → Int32} {mtext : Nat → Int32} {mtexted : Int32} {mundo : Int32} {mabove : Int64} {mbelow : Int64} {mrefused : Nat → Int32} {miword : Nat → Int32} {miname : Nat → Int64} {mnumber : Nat → Int32} {mitems : Int32} {mat : Int32} {mfault : Int32} {mtakes : Int32} {mmisses : Int64} {mbest : Int64} {mleft : Nat → Int32} {mh : Int64} (hF : LFacts cs ad en1 keptImages fab fbe bads noes fulls now bl kp ring imgs tlen tby rkind rstart rbehind rname ritems rfault rrefused draft rnums rall rheld rsecs rhelp rna rout rmiss nmost nlearnt mw mnames mkept mtext mtexted mundo mabove mbelow mrefused miword miname mnumber mitems mat mfault mtakes mmisses mbest mleft mh) (hR : LRel keptImages fab fbe bads noes fulls now bl kp ring imgs tlen tby rkind rstart rbehind rname ritems rfault rrefused draft rnums rall rheld rsecs rhelp rna rout rmiss nmost nlearnt mw mnames mkept mtext mtexted mundo mabove mbelow mrefused miword miname mnumber mitems mat mfault mtakes mmisses mbest mleft mh) (K : ∀ (en2 : Nat → va_E) (keptImages : Int32) (fab : Int64) (fbe : Int64) (bads : Int32) (noes : Int32) (fulls : Int32) (now : HallV) (bl : Int32) (kp : Int32) (ring : Nat → HallV) (imgs : Nat → HallV) (tlen : Int32) (tby : Nat → Int32) (rkind : Int32) (rstart : Int32) (rbehind : Int32) (rname : Int64) (ritems : Int32) (rfault : Int32) (rrefused : Int32) (draft : HallV) (rnums : Nat → Int32) (rall : Nat → Int32) (rheld : Int32) (rsecs : Int32) (rhelp : Int32) (rna : Int32) (rout : Int32) (rmiss : Int64) (nmost : Nat → Int32) (nlearnt : Int32) (mw : Nat → Int32) (mnames : Nat → Int64) (mkept : Nat → Int32) (mtext : Nat → Int32) (mtexted : Int32) (mundo : Int32) (mabove : Int64) (mbelow : Int64) (mrefused : Nat → Int32) (miword : Nat → Int32) (miname : Nat → Int64) (mnumber : Nat → Int32) (mitems : Int32) (mat : Int32) (mfault : Int32) (mtakes : Int32) (mmisses : Int64) (mbest : Int64) (mleft : Nat → Int32) (mh : Int64), LFacts cs ad en2 keptImages fab fbe bads noes fulls now bl kp ring imgs tlen tby rkind rstart rbehind rname ritems rfault rrefused draft rnums rall rheld rsecs rhelp rna rout rmiss nmost nlearnt mw mnames mkept mtext mtexted mundo mabove mbelow mrefused miword miname mnumber mitems mat mfault mtakes mmisses mbest mleft mh → LRel keptImages fab fbe bads noes fulls now bl kp ring imgs tlen tby rkind rstart rbehind rname ritems rfault rrefused draft rnums rall rheld rsecs rhelp rna rout rmiss nmost nlearnt mw mnames mkept mtext mtexted mundo mabove mbelow mrefused miword miname mnumber mitems mat mfault mtakes mmisses mbest mleft mh → G p l e room_1 s m #[Value.ref b] below meth c D 110 ad (fun q => s.heap.size ≤ q) 4 110 6275 (lw_Z below #[Value.ref b] s) en2 1007 [(0, .ref b), (1, .ref (ad 0)), (2, .ref (ad 100)), (3, .int x3)] []) : G p l e room_1 s m #[Value.ref b] below meth c D 110 ad (fun q => s.heap.size ≤ q) 4 110 6275 (lw_Z below #[Value.ref b] s) en1 901 [(0, .ref b), (1, .ref (ad 0)), (2, .ref (ad 100)), (3, .int x3)] [] := by
  have hbA : ¬ (fun q => s.heap.size ≤ q) b := Nat.not_le.mpr hbl
  obtain ⟨e_tt, e_past, e_text, e_reader, e_rowso, e_night, e_model, e_tbytes, e_rnumarr, e_rallarr, e_nmostarr, e_mwarr, e_mnamesarr, e_mkeptarr, e_mtextarr, e_mrefusedarr, e_miwordarr, e_minamearr, e_mnumberarr, e_mleftarr, e_ringarr, e_imgarr, H_now, H_draft, F_ring, F_imgs⟩ := hF
  obtain ⟨q907, q916, h907, h916, heq, hR2⟩ := r_image (keptImages := keptImages) (bads := bads) (noes := noes) (fulls := fulls) (now := now) (imgs := imgs) (mw := mw) (mnames := mnames) (mkept := mkept) (mrefused := mrefused) hR (xs (x3 + (1 : Int32)).toNatClampNeg)
  refine G_aload_n hC 1 1 rfl rfl dL_law_901 ?_
  refine G_aload_n hC 0 0 rfl rfl dL_law_902 ?_
  refine G_iload_n hC 3 3 rfl rfl dL_law_903 ?_
  refine G_iconst hC (v := 1) (by decide) dL_law_904 ?_
  refine G_iadd hC dL_law_905 ?_
  refine G_sld hC hX hbl hbA (vin hi h8 hL 1 (by decide)) dL_law_906 ?_
  refine G_cVi (st := []) hC _ 0 (by omega) (c_X10_image  l (by omega) e_tt e_imgarr H_now F_imgs h907) (cwV 1 hC.hts gL_law_X10_image rfl rfl rfl (by decide +kernel) ⟨Nat.le_of_ble_eq_true rfl, Nat.le_of_ble_eq_true rfl⟩) e_tt rfl rfl (Nat.le_of_ble_eq_true rfl) (Nat.le_of_ble_eq_true rfl) (Nat.le_of_ble_eq_true rfl) rfl dL_law_907 (fun r907 en2 hw => ?_)
  obtain ⟨rfl, e_tt, F_imgs, fr⟩ := hw
  have e_past := (fr 12 (by omega) (by omega)).trans e_past
  have e_text := (fr 81 (by omega) (by omega)).trans e_text
  have e_reader := (fr 83 (by omega) (by omega)).trans e_reader
  have e_rowso := (fr 96 (by omega) (by omega)).trans e_rowso
  have e_night := (fr 98 (by omega) (by omega)).trans e_night
  have e_model := (fr 100 (by omega) (by omega)).trans e_model
  have e_tbytes := (fr 82 (by omega) (by omega)).trans e_tbytes
  have e_rnumarr := (fr 95 (by omega) (by omega)).trans e_rnumarr
  have e_rallarr := (fr 97 (by omega) (by omega)).trans e_rallarr
  have e_nmostarr := (fr 99 (by omega) (by omega)).trans e_nmostarr
  have e_mwarr := (fr 101 (by omega) (by omega)).trans e_mwarr
  have e_mnamesarr := (fr 102 (by omega) (by omega)).trans e_mnamesarr
  have e_mkeptarr := (fr 103 (by omega) (by omega)).trans e_mkeptarr
  have e_mtextarr := (fr 104 (by omega) (by omega)).trans e_mtextarr
  have e_mrefusedarr := (fr 105 (by omega) (by omega)).trans e_mrefusedarr
  have e_miwordarr := (fr 106 (by omega) (by omega)).trans e_miwordarr
  have e_minamearr := (fr 107 (by omega) (by omega)).trans e_minamearr
  have e_mnumberarr := (fr 108 (by omega) (by omega)).trans e_mnumberarr
  have e_mleftarr := (fr 109 (by omega) (by omega)).trans e_mleftarr
  have e_ringarr := (fr 13 (by omega) (by omega)).trans e_ringarr
  have e_imgarr := (fr 58 (by omega) (by omega)).trans e_imgarr
  have H_now := H_now.fr (fun j h1 h2 => fr j (by omega) (by omega))
  have H_draft := H_draft.fr (fun j h1 h2 => fr j (by omega) (by omega))
  have F_ring := fun i (hi : i < 4) => (F_ring i hi).fr (fun j h1 h2 => fr j (by omega) (by omega))
  refine G_aload_n hC 2 2 rfl rfl dL_law_910 ?_
  refine G_aload_n hC 0 0 rfl rfl dL_law_911 ?_
  refine G_iload_n hC 3 3 rfl rfl dL_law_912 ?_
  refine G_iconst hC (v := 1) (by decide) dL_law_913 ?_
  refine G_iadd hC dL_law_914 ?_
  refine G_sld hC hX hbl hbA (vin hi h8 hL 1 (by decide)) dL_law_915 ?_
  refine G_cVi (st := [.int q907.1]) hC _ 100 (by omega) (c_X11_image  l (by omega) e_model e_mwarr e_mnamesarr e_mkeptarr e_mrefusedarr h916) (cwV 1 hC.hts gL_law_X11_image rfl rfl rfl (by decide +kernel) ⟨Nat.le_of_ble_eq_true rfl, Nat.le_of_ble_eq_true rfl⟩) e_model rfl rfl (Nat.le_of_ble_eq_true rfl) (Nat.le_of_ble_eq_true rfl) (Nat.le_of_ble_eq_true rfl) rfl dL_law_916 (fun r916 en3 hw => ?_)
  obtain ⟨rfl, e_mwarr, e_mnamesarr, e_mkeptarr, e_mrefusedarr, fr⟩ := hw
  have e_tt := (fr 0 (by omega) (by omega) (by omega) (by omega)).trans e_tt
  have e_past := (fr 12 (by omega) (by omega) (by omega) (by omega)).trans e_past
  have e_text := (fr 81 (by omega) (by omega) (by omega) (by omega)).trans e_text
  have e_reader := (fr 83 (by omega) (by omega) (by omega) (by omega)).trans e_reader
  have e_rowso := (fr 96 (by omega) (by omega) (by omega) (by omega)).trans e_rowso
  have e_night := (fr 98 (by omega) (by omega) (by omega) (by omega)).trans e_night
  have e_model := (fr 100 (by omega) (by omega) (by omega) (by omega)).trans e_model
  have e_tbytes := (fr 82 (by omega) (by omega) (by omega) (by omega)).trans e_tbytes
  have e_rnumarr := (fr 95 (by omega) (by omega) (by omega) (by omega)).trans e_rnumarr
  have e_rallarr := (fr 97 (by omega) (by omega) (by omega) (by omega)).trans e_rallarr
  have e_nmostarr := (fr 99 (by omega) (by omega) (by omega) (by omega)).trans e_nmostarr
  have e_mtextarr := (fr 104 (by omega) (by omega) (by omega) (by omega)).trans e_mtextarr
  have e_miwordarr := (fr 106 (by omega) (by omega) (by omega) (by omega)).trans e_miwordarr
  have e_minamearr := (fr 107 (by omega) (by omega) (by omega) (by omega)).trans e_minamearr
  have e_mnumberarr := (fr 108 (by omega) (by omega) (by omega) (by omega)).trans e_mnumberarr
  have e_mleftarr := (fr 109 (by omega) (by omega) (by omega) (by omega)).trans e_mleftarr
  have e_ringarr := (fr 13 (by omega) (by omega) (by omega) (by omega)).trans e_ringarr
  have e_imgarr := (fr 58 (by omega) (by omega) (by omega) (by omega)).trans e_imgarr
  have H_now := H_now.fr (fun j h1 h2 => fr j (by omega) (by omega) (by omega) (by omega))
  have H_draft := H_draft.fr (fun j h1 h2 => fr j (by omega) (by omega) (by omega) (by omega))
  have F_ring := fun i (hi : i < 4) => (F_ring i hi).fr (fun j h1 h2 => fr j (by omega) (by omega) (by omega) (by omega))
  have F_imgs := fun i (hi : i < 2) => (F_imgs i hi).fr (fun j h1 h2 => fr j (by omega) (by omega) (by omega) (by omega))
  refine G_icmp_eq hC 1007 dL_law_919 (by decide) (fun _ => ?_) (fun z => absurd heq z)
  exact K _ _ _ _ _ _ _ _ _ _ _ _ _ _ _ _ _ _ _ _ _ _ _ _ _ _ _ _ _ _ _ _ _ _ _ _ _ _ _ _ _ _ _ _ _ _ _ _ _ _ _ _ ⟨e_tt, e_past, e_text, e_reader, e_rowso, e_night, e_model, e_tbytes, e_rnumarr, e_rallarr, e_nmostarr, e_mwarr, e_mnamesarr, e_mkeptarr, e_mtextarr, e_mrefusedarr, e_miwordarr, e_minamearr, e_mnumberarr, e_mleftarr, e_ringarr, e_imgarr, H_now, H_draft, F_ring, F_imgs⟩ hR2
set_option maxHeartbeats 4000000 in
set_option maxRecDepth 100000 in
theorem lc_from {p : Program} {l : Launch} {e : Env} {s : State} {m : MethodId} {below : List Frame} {meth : Method} {c : Code} {D : va_G} {cs : Nat → ClassId} {sa : Nat → Nat} {ad : Nat → Nat} {b L : Nat} {xs : Nat → Int32} (hL : L ≤ 4096) (hX : va_X b L xs s s.heap) (hbl : b < s.heap.size) (hC : Ck p s m #[Value.ref b] c code 4 wsL_law RL D cs sa 110 ad (fun q => s.heap.size ≤ q)) {i : Nat} {x3 : Int32} (hi : x3 = nI i) (h8 : i + 8 ≤ L) {en1 : Nat → va_E} {keptImages : Int32} {fab : Int64} {fbe : Int64} {bads : Int32} {noes : Int32} {fulls : Int32} {now : HallV} {bl : Int32} {kp : Int32} {ring : Nat → HallV} {imgs : Nat → HallV} {tlen : Int32} {tby : Nat → Int32} {rkind : Int32} {rstart : Int32} {rbehind : Int32} {rname : Int64} {ritems : Int32} {rfault : Int32} {rrefused : Int32} {draft : HallV} {rnums : Nat → Int32} {rall : Nat → Int32} {rheld : Int32} {rsecs : Int32} {rhelp : Int32} {rna : Int32} {rout : Int32} {rmiss : Int64} {nmost : Nat → Int32} {nlearnt : Int32} {mw : Nat → Int32} {mnames : Nat → Int64} {mkept : Nat → Int32} {mtext : Nat → Int32} {mtexted : Int32} {mundo : Int32} {mabove : Int64} {mbelow : Int64} {mrefused : Nat → Int32} {miword : Nat → Int32} {miname : Nat → Int64} {mnumber : Nat → Int32} {mitems : Int32} {mat : Int32} {mfault : Int32} {mtakes : Int32} {mmisses : Int64} {mbest : Int64} {mleft : Nat → Int32} {mh : Int64} (hF : LFacts cs ad en1 keptImages fab fbe bads noes fulls now bl kp ring imgs tlen tby rkind rstart rbehind rname ritems rfault rrefused draft rnums rall rheld rsecs rhelp rna rout rmiss nmost nlearnt mw mnames mkept mtext mtexted mundo mabove mbelow mrefused miword miname mnumber mitems mat mfault mtakes mmisses mbest mleft mh) (hR : LRel keptImages fab fbe bads noes fulls now bl kp ring imgs tlen tby rkind rstart rbehind rname ritems rfault rrefused draft rnums rall rheld rsecs rhelp rna rout rmiss nmost nlearnt mw mnames mkept mtext mtexted mundo mabove mbelow mrefused miword miname mnumber mitems mat mfault mtakes mmisses mbest mleft mh) (K : ∀ (en2 : Nat → va_E) (keptImages : Int32) (fab : Int64) (fbe : Int64) (bads : Int32) (noes : Int32) (fulls : Int32) (now : HallV) (bl : Int32) (kp : Int32) (ring : Nat → HallV) (imgs : Nat → HallV) (tlen : Int32) (tby : Nat → Int32) (rkind : Int32) (rstart : Int32) (rbehind : Int32) (rname : Int64) (ritems : Int32) (rfault : Int32) (rrefused : Int32) (draft : HallV) (rnums : Nat → Int32) (rall : Nat → Int32) (rheld : Int32) (rsecs : Int32) (rhelp : Int32) (rna : Int32) (rout : Int32) (rmiss : Int64) (nmost : Nat → Int32) (nlearnt : Int32) (mw : Nat → Int32) (mnames : Nat → Int64) (mkept : Nat → Int32) (mtext : Nat → Int32) (mtexted : Int32) (mundo : Int32) (mabove : Int64) (mbelow : Int64) (mrefused : Nat → Int32) (miword : Nat → Int32) (miname : Nat → Int64) (mnumber : Nat → Int32) (mitems : Int32) (mat : Int32) (mfault : Int32) (mtakes : Int32) (mmisses : Int64) (mbest : Int64) (mleft : Nat → Int32) (mh : Int64), LFacts cs ad en2 keptImages fab fbe bads noes fulls now bl kp ring imgs tlen tby rkind rstart rbehind rname ritems rfault rrefused draft rnums rall rheld rsecs rhelp rna rout rmiss nmost nlearnt mw mnames mkept mtext mtexted mundo mabove mbelow mrefused miword miname mnumber mitems mat mfault mtakes mmisses mbest mleft mh → LRel keptImages fab fbe bads noes fulls now bl kp ring imgs tlen tby rkind rstart rbehind rname ritems rfault rrefused draft rnums rall rheld rsecs rhelp rna rout rmiss nmost nlearnt mw mnames mkept mtext mtexted mundo mabove mbelow mrefused miword miname mnumber mitems mat mfault mtakes mmisses mbest mleft mh → G p l e room_1 s m #[Value.ref b] below meth c D 110 ad (fun q => s.heap.size ≤ q) 4 110 6275 (lw_Z below #[Value.ref b] s) en2 1007 [(0, .ref b), (1, .ref (ad 0)), (2, .ref (ad 100)), (3, .int x3)] []) : G p l e room_1 s m #[Value.ref b] below meth c D 110 ad (fun q => s.heap.size ≤ q) 4 110 6275 (lw_Z below #[Value.ref b] s) en1 924 [(0, .ref b), (1, .ref (ad 0)), (2, .ref (ad 100)), (3, .int x3)] [] := by
  have hbA : ¬ (fun q => s.heap.size ≤ q) b := Nat.not_le.mpr hbl
  obtain ⟨e_tt, e_past, e_text, e_reader, e_rowso, e_night, e_model, e_tbytes, e_rnumarr, e_rallarr, e_nmostarr, e_mwarr, e_mnamesarr, e_mkeptarr, e_mtextarr, e_mrefusedarr, e_miwordarr, e_minamearr, e_mnumberarr, e_mleftarr, e_ringarr, e_imgarr, H_now, H_draft, F_ring, F_imgs⟩ := hF
  obtain ⟨q930, q939, h930, h939, heq, hR2⟩ := r_from (keptImages := keptImages) (bads := bads) (noes := noes) (fulls := fulls) (now := now) (kp := kp) (imgs := imgs) (mw := mw) (mnames := mnames) (mkept := mkept) (mundo := mundo) (mrefused := mrefused) hR (xs (x3 + (1 : Int32)).toNatClampNeg)
  refine G_aload_n hC 1 1 rfl rfl dL_law_924 ?_
  refine G_aload_n hC 0 0 rfl rfl dL_law_925 ?_
  refine G_iload_n hC 3 3 rfl rfl dL_law_926 ?_
  refine G_iconst hC (v := 1) (by decide) dL_law_927 ?_
  refine G_iadd hC dL_law_928 ?_
  refine G_sld hC hX hbl hbA (vin hi h8 hL 1 (by decide)) dL_law_929 ?_
  refine G_cVi (st := []) hC _ 0 (by omega) (c_X10_from  l (by omega) e_tt e_past e_imgarr H_now F_imgs h930) (cwV 1 hC.hts gL_law_X10_from rfl rfl rfl (by decide +kernel) ⟨Nat.le_of_ble_eq_true rfl, Nat.le_of_ble_eq_true rfl⟩) e_tt rfl rfl (Nat.le_of_ble_eq_true rfl) (Nat.le_of_ble_eq_true rfl) (Nat.le_of_ble_eq_true rfl) rfl dL_law_930 (fun r930 en2 hw => ?_)
  obtain ⟨rfl, e_tt, e_past, H_now, fr⟩ := hw
  have e_text := (fr 81 (by omega) (by omega) (by omega)).trans e_text
  have e_reader := (fr 83 (by omega) (by omega) (by omega)).trans e_reader
  have e_rowso := (fr 96 (by omega) (by omega) (by omega)).trans e_rowso
  have e_night := (fr 98 (by omega) (by omega) (by omega)).trans e_night
  have e_model := (fr 100 (by omega) (by omega) (by omega)).trans e_model
  have e_tbytes := (fr 82 (by omega) (by omega) (by omega)).trans e_tbytes
  have e_rnumarr := (fr 95 (by omega) (by omega) (by omega)).trans e_rnumarr
  have e_rallarr := (fr 97 (by omega) (by omega) (by omega)).trans e_rallarr
  have e_nmostarr := (fr 99 (by omega) (by omega) (by omega)).trans e_nmostarr
  have e_mwarr := (fr 101 (by omega) (by omega) (by omega)).trans e_mwarr
  have e_mnamesarr := (fr 102 (by omega) (by omega) (by omega)).trans e_mnamesarr
  have e_mkeptarr := (fr 103 (by omega) (by omega) (by omega)).trans e_mkeptarr
  have e_mtextarr := (fr 104 (by omega) (by omega) (by omega)).trans e_mtextarr
  have e_mrefusedarr := (fr 105 (by omega) (by omega) (by omega)).trans e_mrefusedarr
  have e_miwordarr := (fr 106 (by omega) (by omega) (by omega)).trans e_miwordarr
  have e_minamearr := (fr 107 (by omega) (by omega) (by omega)).trans e_minamearr
  have e_mnumberarr := (fr 108 (by omega) (by omega) (by omega)).trans e_mnumberarr
  have e_mleftarr := (fr 109 (by omega) (by omega) (by omega)).trans e_mleftarr
  have e_ringarr := (fr 13 (by omega) (by omega) (by omega)).trans e_ringarr
  have e_imgarr := (fr 58 (by omega) (by omega) (by omega)).trans e_imgarr
  have H_draft := H_draft.fr (fun j h1 h2 => fr j (by omega) (by omega) (by omega))
  have F_ring := fun i (hi : i < 4) => (F_ring i hi).fr (fun j h1 h2 => fr j (by omega) (by omega) (by omega))
  have F_imgs := fun i (hi : i < 2) => (F_imgs i hi).fr (fun j h1 h2 => fr j (by omega) (by omega) (by omega))
  refine G_aload_n hC 2 2 rfl rfl dL_law_933 ?_
  refine G_aload_n hC 0 0 rfl rfl dL_law_934 ?_
  refine G_iload_n hC 3 3 rfl rfl dL_law_935 ?_
  refine G_iconst hC (v := 1) (by decide) dL_law_936 ?_
  refine G_iadd hC dL_law_937 ?_
  refine G_sld hC hX hbl hbA (vin hi h8 hL 1 (by decide)) dL_law_938 ?_
  refine G_cVi (st := [.int q930.1]) hC _ 100 (by omega) (c_X11_from  l (by omega) e_model e_mwarr e_mnamesarr e_mkeptarr e_mrefusedarr h939) (cwV 1 hC.hts gL_law_X11_from rfl rfl rfl (by decide +kernel) ⟨Nat.le_of_ble_eq_true rfl, Nat.le_of_ble_eq_true rfl⟩) e_model rfl rfl (Nat.le_of_ble_eq_true rfl) (Nat.le_of_ble_eq_true rfl) (Nat.le_of_ble_eq_true rfl) rfl dL_law_939 (fun r939 en3 hw => ?_)
  obtain ⟨rfl, e_model, e_mwarr, e_mnamesarr, e_mrefusedarr, fr⟩ := hw
  have e_tt := (fr 0 (by omega) (by omega) (by omega) (by omega)).trans e_tt
  have e_past := (fr 12 (by omega) (by omega) (by omega) (by omega)).trans e_past
  have e_text := (fr 81 (by omega) (by omega) (by omega) (by omega)).trans e_text
  have e_reader := (fr 83 (by omega) (by omega) (by omega) (by omega)).trans e_reader
  have e_rowso := (fr 96 (by omega) (by omega) (by omega) (by omega)).trans e_rowso
  have e_night := (fr 98 (by omega) (by omega) (by omega) (by omega)).trans e_night
  have e_tbytes := (fr 82 (by omega) (by omega) (by omega) (by omega)).trans e_tbytes
  have e_rnumarr := (fr 95 (by omega) (by omega) (by omega) (by omega)).trans e_rnumarr
  have e_rallarr := (fr 97 (by omega) (by omega) (by omega) (by omega)).trans e_rallarr
  have e_nmostarr := (fr 99 (by omega) (by omega) (by omega) (by omega)).trans e_nmostarr
  have e_mkeptarr := (fr 103 (by omega) (by omega) (by omega) (by omega)).trans e_mkeptarr
  have e_mtextarr := (fr 104 (by omega) (by omega) (by omega) (by omega)).trans e_mtextarr
  have e_miwordarr := (fr 106 (by omega) (by omega) (by omega) (by omega)).trans e_miwordarr
  have e_minamearr := (fr 107 (by omega) (by omega) (by omega) (by omega)).trans e_minamearr
  have e_mnumberarr := (fr 108 (by omega) (by omega) (by omega) (by omega)).trans e_mnumberarr
  have e_mleftarr := (fr 109 (by omega) (by omega) (by omega) (by omega)).trans e_mleftarr
  have e_ringarr := (fr 13 (by omega) (by omega) (by omega) (by omega)).trans e_ringarr
  have e_imgarr := (fr 58 (by omega) (by omega) (by omega) (by omega)).trans e_imgarr
  have H_now := H_now.fr (fun j h1 h2 => fr j (by omega) (by omega) (by omega) (by omega))
  have H_draft := H_draft.fr (fun j h1 h2 => fr j (by omega) (by omega) (by omega) (by omega))
  have F_ring := fun i (hi : i < 4) => (F_ring i hi).fr (fun j h1 h2 => fr j (by omega) (by omega) (by omega) (by omega))
  have F_imgs := fun i (hi : i < 2) => (F_imgs i hi).fr (fun j h1 h2 => fr j (by omega) (by omega) (by omega) (by omega))
  refine G_icmp_eq hC 1007 dL_law_942 (by decide) (fun _ => ?_) (fun z => absurd heq z)
  exact K _ _ _ _ _ _ _ _ _ _ _ _ _ _ _ _ _ _ _ _ _ _ _ _ _ _ _ _ _ _ _ _ _ _ _ _ _ _ _ _ _ _ _ _ _ _ _ _ _ _ _ _ ⟨e_tt, e_past, e_text, e_reader, e_rowso, e_night, e_model, e_tbytes, e_rnumarr, e_rallarr, e_nmostarr, e_mwarr, e_mnamesarr, e_mkeptarr, e_mtextarr, e_mrefusedarr, e_miwordarr, e_minamearr, e_mnumberarr, e_mleftarr, e_ringarr, e_imgarr, H_now, H_draft, F_ring, F_imgs⟩ hR2
set_option maxHeartbeats 4000000 in
set_option maxRecDepth 100000 in
theorem lc_status {p : Program} {l : Launch} {e : Env} {s : State} {m : MethodId} {below : List Frame} {meth : Method} {c : Code} {D : va_G} {cs : Nat → ClassId} {sa : Nat → Nat} {ad : Nat → Nat} {b L : Nat} {xs : Nat → Int32} (hL : L ≤ 4096) (hX : va_X b L xs s s.heap) (hbl : b < s.heap.size) (hC : Ck p s m #[Value.ref b] c code 4 wsL_law RL D cs sa 110 ad (fun q => s.heap.size ≤ q)) {i : Nat} {x3 : Int32} (hi : x3 = nI i) (h8 : i + 8 ≤ L) {en1 : Nat → va_E} {keptImages : Int32} {fab : Int64} {fbe : Int64} {bads : Int32} {noes : Int32} {fulls : Int32} {now : HallV} {bl : Int32} {kp : Int32} {ring : Nat → HallV} {imgs : Nat → HallV} {tlen : Int32} {tby : Nat → Int32} {rkind : Int32} {rstart : Int32} {rbehind : Int32} {rname : Int64} {ritems : Int32} {rfault : Int32} {rrefused : Int32} {draft : HallV} {rnums : Nat → Int32} {rall : Nat → Int32} {rheld : Int32} {rsecs : Int32} {rhelp : Int32} {rna : Int32} {rout : Int32} {rmiss : Int64} {nmost : Nat → Int32} {nlearnt : Int32} {mw : Nat → Int32} {mnames : Nat → Int64} {mkept : Nat → Int32} {mtext : Nat → Int32} {mtexted : Int32} {mundo : Int32} {mabove : Int64} {mbelow : Int64} {mrefused : Nat → Int32} {miword : Nat → Int32} {miname : Nat → Int64} {mnumber : Nat → Int32} {mitems : Int32} {mat : Int32} {mfault : Int32} {mtakes : Int32} {mmisses : Int64} {mbest : Int64} {mleft : Nat → Int32} {mh : Int64} (hF : LFacts cs ad en1 keptImages fab fbe bads noes fulls now bl kp ring imgs tlen tby rkind rstart rbehind rname ritems rfault rrefused draft rnums rall rheld rsecs rhelp rna rout rmiss nmost nlearnt mw mnames mkept mtext mtexted mundo mabove mbelow mrefused miword miname mnumber mitems mat mfault mtakes mmisses mbest mleft mh) (hR : LRel keptImages fab fbe bads noes fulls now bl kp ring imgs tlen tby rkind rstart rbehind rname ritems rfault rrefused draft rnums rall rheld rsecs rhelp rna rout rmiss nmost nlearnt mw mnames mkept mtext mtexted mundo mabove mbelow mrefused miword miname mnumber mitems mat mfault mtakes mmisses mbest mleft mh) (K : ∀ (en2 : Nat → va_E) (keptImages : Int32) (fab : Int64) (fbe : Int64) (bads : Int32) (noes : Int32) (fulls : Int32) (now : HallV) (bl : Int32) (kp : Int32) (ring : Nat → HallV) (imgs : Nat → HallV) (tlen : Int32) (tby : Nat → Int32) (rkind : Int32) (rstart : Int32) (rbehind : Int32) (rname : Int64) (ritems : Int32) (rfault : Int32) (rrefused : Int32) (draft : HallV) (rnums : Nat → Int32) (rall : Nat → Int32) (rheld : Int32) (rsecs : Int32) (rhelp : Int32) (rna : Int32) (rout : Int32) (rmiss : Int64) (nmost : Nat → Int32) (nlearnt : Int32) (mw : Nat → Int32) (mnames : Nat → Int64) (mkept : Nat → Int32) (mtext : Nat → Int32) (mtexted : Int32) (mundo : Int32) (mabove : Int64) (mbelow : Int64) (mrefused : Nat → Int32) (miword : Nat → Int32) (miname : Nat → Int64) (mnumber : Nat → Int32) (mitems : Int32) (mat : Int32) (mfault : Int32) (mtakes : Int32) (mmisses : Int64) (mbest : Int64) (mleft : Nat → Int32) (mh : Int64), LFacts cs ad en2 keptImages fab fbe bads noes fulls now bl kp ring imgs tlen tby rkind rstart rbehind rname ritems rfault rrefused draft rnums rall rheld rsecs rhelp rna rout rmiss nmost nlearnt mw mnames mkept mtext mtexted mundo mabove mbelow mrefused miword miname mnumber mitems mat mfault mtakes mmisses mbest mleft mh → LRel keptImages fab fbe bads noes fulls now bl kp ring imgs tlen tby rkind rstart rbehind rname ritems rfault rrefused draft rnums rall rheld rsecs rhelp rna rout rmiss nmost nlearnt mw mnames mkept mtext mtexted mundo mabove mbelow mrefused miword miname mnumber mitems mat mfault mtakes mmisses mbest mleft mh → G p l e room_1 s m #[Value.ref b] below meth c D 110 ad (fun q => s.heap.size ≤ q) 4 110 6275 (lw_Z below #[Value.ref b] s) en2 1007 [(0, .ref b), (1, .ref (ad 0)), (2, .ref (ad 100)), (3, .int x3)] []) : G p l e room_1 s m #[Value.ref b] below meth c D 110 ad (fun q => s.heap.size ≤ q) 4 110 6275 (lw_Z below #[Value.ref b] s) en1 947 [(0, .ref b), (1, .ref (ad 0)), (2, .ref (ad 100)), (3, .int x3)] [] := by
  have hbA : ¬ (fun q => s.heap.size ≤ q) b := Nat.not_le.mpr hbl
  obtain ⟨e_tt, e_past, e_text, e_reader, e_rowso, e_night, e_model, e_tbytes, e_rnumarr, e_rallarr, e_nmostarr, e_mwarr, e_mnamesarr, e_mkeptarr, e_mtextarr, e_mrefusedarr, e_miwordarr, e_minamearr, e_mnumberarr, e_mleftarr, e_ringarr, e_imgarr, H_now, H_draft, F_ring, F_imgs⟩ := hF
  obtain ⟨q953, q962, h953, h962, heq, hR2⟩ := r_status (bads := bads) (noes := noes) (fulls := fulls) (mrefused := mrefused) hR (xs (x3 + (1 : Int32)).toNatClampNeg)
  refine G_aload_n hC 1 1 rfl rfl dL_law_947 ?_
  refine G_aload_n hC 0 0 rfl rfl dL_law_948 ?_
  refine G_iload_n hC 3 3 rfl rfl dL_law_949 ?_
  refine G_iconst hC (v := 1) (by decide) dL_law_950 ?_
  refine G_iadd hC dL_law_951 ?_
  refine G_sld hC hX hbl hbA (vin hi h8 hL 1 (by decide)) dL_law_952 ?_
  refine G_cVi (st := []) hC _ 0 (by omega) (c_X10_status  l (by omega) e_tt h953) (cwV 1 hC.hts gL_law_X10_status rfl rfl rfl (by decide +kernel) ⟨Nat.le_of_ble_eq_true rfl, Nat.le_of_ble_eq_true rfl⟩) e_tt rfl rfl (Nat.le_of_ble_eq_true rfl) (Nat.le_of_ble_eq_true rfl) (Nat.le_of_ble_eq_true rfl) rfl dL_law_953 (fun r953 en2 hw => ?_)
  obtain ⟨rfl, e_tt, fr⟩ := hw
  have e_past := (fr 12 (by omega)).trans e_past
  have e_text := (fr 81 (by omega)).trans e_text
  have e_reader := (fr 83 (by omega)).trans e_reader
  have e_rowso := (fr 96 (by omega)).trans e_rowso
  have e_night := (fr 98 (by omega)).trans e_night
  have e_model := (fr 100 (by omega)).trans e_model
  have e_tbytes := (fr 82 (by omega)).trans e_tbytes
  have e_rnumarr := (fr 95 (by omega)).trans e_rnumarr
  have e_rallarr := (fr 97 (by omega)).trans e_rallarr
  have e_nmostarr := (fr 99 (by omega)).trans e_nmostarr
  have e_mwarr := (fr 101 (by omega)).trans e_mwarr
  have e_mnamesarr := (fr 102 (by omega)).trans e_mnamesarr
  have e_mkeptarr := (fr 103 (by omega)).trans e_mkeptarr
  have e_mtextarr := (fr 104 (by omega)).trans e_mtextarr
  have e_mrefusedarr := (fr 105 (by omega)).trans e_mrefusedarr
  have e_miwordarr := (fr 106 (by omega)).trans e_miwordarr
  have e_minamearr := (fr 107 (by omega)).trans e_minamearr
  have e_mnumberarr := (fr 108 (by omega)).trans e_mnumberarr
  have e_mleftarr := (fr 109 (by omega)).trans e_mleftarr
  have e_ringarr := (fr 13 (by omega)).trans e_ringarr
  have e_imgarr := (fr 58 (by omega)).trans e_imgarr
  have H_now := H_now.fr (fun j h1 h2 => fr j (by omega))
  have H_draft := H_draft.fr (fun j h1 h2 => fr j (by omega))
  have F_ring := fun i (hi : i < 4) => (F_ring i hi).fr (fun j h1 h2 => fr j (by omega))
  have F_imgs := fun i (hi : i < 2) => (F_imgs i hi).fr (fun j h1 h2 => fr j (by omega))
  refine G_aload_n hC 2 2 rfl rfl dL_law_956 ?_
  refine G_aload_n hC 0 0 rfl rfl dL_law_957 ?_
  refine G_iload_n hC 3 3 rfl rfl dL_law_958 ?_
  refine G_iconst hC (v := 1) (by decide) dL_law_959 ?_
  refine G_iadd hC dL_law_960 ?_
  refine G_sld hC hX hbl hbA (vin hi h8 hL 1 (by decide)) dL_law_961 ?_
  refine G_cVi (st := [.int q953.1]) hC _ 100 (by omega) (c_X11_status  l (by omega) e_model e_mrefusedarr h962) (cwV 1 hC.hts gL_law_X11_status rfl rfl rfl (by decide +kernel) ⟨Nat.le_of_ble_eq_true rfl, Nat.le_of_ble_eq_true rfl⟩) e_model rfl rfl (Nat.le_of_ble_eq_true rfl) (Nat.le_of_ble_eq_true rfl) (Nat.le_of_ble_eq_true rfl) rfl dL_law_962 (fun r962 en3 hw => ?_)
  obtain ⟨rfl, e_mrefusedarr, fr⟩ := hw
  have e_tt := (fr 0 (by omega)).trans e_tt
  have e_past := (fr 12 (by omega)).trans e_past
  have e_text := (fr 81 (by omega)).trans e_text
  have e_reader := (fr 83 (by omega)).trans e_reader
  have e_rowso := (fr 96 (by omega)).trans e_rowso
  have e_night := (fr 98 (by omega)).trans e_night
  have e_model := (fr 100 (by omega)).trans e_model
  have e_tbytes := (fr 82 (by omega)).trans e_tbytes
  have e_rnumarr := (fr 95 (by omega)).trans e_rnumarr
  have e_rallarr := (fr 97 (by omega)).trans e_rallarr
  have e_nmostarr := (fr 99 (by omega)).trans e_nmostarr
  have e_mwarr := (fr 101 (by omega)).trans e_mwarr
  have e_mnamesarr := (fr 102 (by omega)).trans e_mnamesarr
  have e_mkeptarr := (fr 103 (by omega)).trans e_mkeptarr
  have e_mtextarr := (fr 104 (by omega)).trans e_mtextarr
  have e_miwordarr := (fr 106 (by omega)).trans e_miwordarr
  have e_minamearr := (fr 107 (by omega)).trans e_minamearr
  have e_mnumberarr := (fr 108 (by omega)).trans e_mnumberarr
  have e_mleftarr := (fr 109 (by omega)).trans e_mleftarr
  have e_ringarr := (fr 13 (by omega)).trans e_ringarr
  have e_imgarr := (fr 58 (by omega)).trans e_imgarr
  have H_now := H_now.fr (fun j h1 h2 => fr j (by omega))
  have H_draft := H_draft.fr (fun j h1 h2 => fr j (by omega))
  have F_ring := fun i (hi : i < 4) => (F_ring i hi).fr (fun j h1 h2 => fr j (by omega))
  have F_imgs := fun i (hi : i < 2) => (F_imgs i hi).fr (fun j h1 h2 => fr j (by omega))
  refine G_icmp_eq hC 1007 dL_law_965 (by decide) (fun _ => ?_) (fun z => absurd heq z)
  exact K _ _ _ _ _ _ _ _ _ _ _ _ _ _ _ _ _ _ _ _ _ _ _ _ _ _ _ _ _ _ _ _ _ _ _ _ _ _ _ _ _ _ _ _ _ _ _ _ _ _ _ _ ⟨e_tt, e_past, e_text, e_reader, e_rowso, e_night, e_model, e_tbytes, e_rnumarr, e_rallarr, e_nmostarr, e_mwarr, e_mnamesarr, e_mkeptarr, e_mtextarr, e_mrefusedarr, e_miwordarr, e_minamearr, e_mnumberarr, e_mleftarr, e_ringarr, e_imgarr, H_now, H_draft, F_ring, F_imgs⟩ hR2
set_option maxHeartbeats 4000000 in
set_option maxRecDepth 100000 in
theorem lc_count {p : Program} {l : Launch} {e : Env} {s : State} {m : MethodId} {below : List Frame} {meth : Method} {c : Code} {D : va_G} {cs : Nat → ClassId} {sa : Nat → Nat} {ad : Nat → Nat} {b L : Nat} {xs : Nat → Int32} (hL : L ≤ 4096) (hX : va_X b L xs s s.heap) (hbl : b < s.heap.size) (hC : Ck p s m #[Value.ref b] c code 4 wsL_law RL D cs sa 110 ad (fun q => s.heap.size ≤ q)) {i : Nat} {x3 : Int32} (hi : x3 = nI i) (h8 : i + 8 ≤ L) {en1 : Nat → va_E} {keptImages : Int32} {fab : Int64} {fbe : Int64} {bads : Int32} {noes : Int32} {fulls : Int32} {now : HallV} {bl : Int32} {kp : Int32} {ring : Nat → HallV} {imgs : Nat → HallV} {tlen : Int32} {tby : Nat → Int32} {rkind : Int32} {rstart : Int32} {rbehind : Int32} {rname : Int64} {ritems : Int32} {rfault : Int32} {rrefused : Int32} {draft : HallV} {rnums : Nat → Int32} {rall : Nat → Int32} {rheld : Int32} {rsecs : Int32} {rhelp : Int32} {rna : Int32} {rout : Int32} {rmiss : Int64} {nmost : Nat → Int32} {nlearnt : Int32} {mw : Nat → Int32} {mnames : Nat → Int64} {mkept : Nat → Int32} {mtext : Nat → Int32} {mtexted : Int32} {mundo : Int32} {mabove : Int64} {mbelow : Int64} {mrefused : Nat → Int32} {miword : Nat → Int32} {miname : Nat → Int64} {mnumber : Nat → Int32} {mitems : Int32} {mat : Int32} {mfault : Int32} {mtakes : Int32} {mmisses : Int64} {mbest : Int64} {mleft : Nat → Int32} {mh : Int64} (hF : LFacts cs ad en1 keptImages fab fbe bads noes fulls now bl kp ring imgs tlen tby rkind rstart rbehind rname ritems rfault rrefused draft rnums rall rheld rsecs rhelp rna rout rmiss nmost nlearnt mw mnames mkept mtext mtexted mundo mabove mbelow mrefused miword miname mnumber mitems mat mfault mtakes mmisses mbest mleft mh) (hR : LRel keptImages fab fbe bads noes fulls now bl kp ring imgs tlen tby rkind rstart rbehind rname ritems rfault rrefused draft rnums rall rheld rsecs rhelp rna rout rmiss nmost nlearnt mw mnames mkept mtext mtexted mundo mabove mbelow mrefused miword miname mnumber mitems mat mfault mtakes mmisses mbest mleft mh) (K : ∀ (en2 : Nat → va_E) (keptImages : Int32) (fab : Int64) (fbe : Int64) (bads : Int32) (noes : Int32) (fulls : Int32) (now : HallV) (bl : Int32) (kp : Int32) (ring : Nat → HallV) (imgs : Nat → HallV) (tlen : Int32) (tby : Nat → Int32) (rkind : Int32) (rstart : Int32) (rbehind : Int32) (rname : Int64) (ritems : Int32) (rfault : Int32) (rrefused : Int32) (draft : HallV) (rnums : Nat → Int32) (rall : Nat → Int32) (rheld : Int32) (rsecs : Int32) (rhelp : Int32) (rna : Int32) (rout : Int32) (rmiss : Int64) (nmost : Nat → Int32) (nlearnt : Int32) (mw : Nat → Int32) (mnames : Nat → Int64) (mkept : Nat → Int32) (mtext : Nat → Int32) (mtexted : Int32) (mundo : Int32) (mabove : Int64) (mbelow : Int64) (mrefused : Nat → Int32) (miword : Nat → Int32) (miname : Nat → Int64) (mnumber : Nat → Int32) (mitems : Int32) (mat : Int32) (mfault : Int32) (mtakes : Int32) (mmisses : Int64) (mbest : Int64) (mleft : Nat → Int32) (mh : Int64), LFacts cs ad en2 keptImages fab fbe bads noes fulls now bl kp ring imgs tlen tby rkind rstart rbehind rname ritems rfault rrefused draft rnums rall rheld rsecs rhelp rna rout rmiss nmost nlearnt mw mnames mkept mtext mtexted mundo mabove mbelow mrefused miword miname mnumber mitems mat mfault mtakes mmisses mbest mleft mh → LRel keptImages fab fbe bads noes fulls now bl kp ring imgs tlen tby rkind rstart rbehind rname ritems rfault rrefused draft rnums rall rheld rsecs rhelp rna rout rmiss nmost nlearnt mw mnames mkept mtext mtexted mundo mabove mbelow mrefused miword miname mnumber mitems mat mfault mtakes mmisses mbest mleft mh → G p l e room_1 s m #[Value.ref b] below meth c D 110 ad (fun q => s.heap.size ≤ q) 4 110 6275 (lw_Z below #[Value.ref b] s) en2 1007 [(0, .ref b), (1, .ref (ad 0)), (2, .ref (ad 100)), (3, .int x3)] []) : G p l e room_1 s m #[Value.ref b] below meth c D 110 ad (fun q => s.heap.size ≤ q) 4 110 6275 (lw_Z below #[Value.ref b] s) en1 970 [(0, .ref b), (1, .ref (ad 0)), (2, .ref (ad 100)), (3, .int x3)] [] := by
  have hbA : ¬ (fun q => s.heap.size ≤ q) b := Nat.not_le.mpr hbl
  obtain ⟨e_tt, e_past, e_text, e_reader, e_rowso, e_night, e_model, e_tbytes, e_rnumarr, e_rallarr, e_nmostarr, e_mwarr, e_mnamesarr, e_mkeptarr, e_mtextarr, e_mrefusedarr, e_miwordarr, e_minamearr, e_mnumberarr, e_mleftarr, e_ringarr, e_imgarr, H_now, H_draft, F_ring, F_imgs⟩ := hF
  obtain ⟨q976, q985, h976, h985, heq, hR2⟩ := r_count (bads := bads) (noes := noes) (fulls := fulls) (now := now) (kp := kp) (tlen := tlen) (mw := mw) (mtexted := mtexted) (mundo := mundo) (mrefused := mrefused) hR (xs (x3 + (1 : Int32)).toNatClampNeg)
  refine G_aload_n hC 1 1 rfl rfl dL_law_970 ?_
  refine G_aload_n hC 0 0 rfl rfl dL_law_971 ?_
  refine G_iload_n hC 3 3 rfl rfl dL_law_972 ?_
  refine G_iconst hC (v := 1) (by decide) dL_law_973 ?_
  refine G_iadd hC dL_law_974 ?_
  refine G_sld hC hX hbl hbA (vin hi h8 hL 1 (by decide)) dL_law_975 ?_
  refine G_cVi (st := []) hC _ 0 (by omega) (c_X10_count  l (by omega) e_tt e_past e_text H_now h976) (cwV 1 hC.hts gL_law_X10_count rfl rfl rfl (by decide +kernel) ⟨Nat.le_of_ble_eq_true rfl, Nat.le_of_ble_eq_true rfl⟩) e_tt rfl rfl (Nat.le_of_ble_eq_true rfl) (Nat.le_of_ble_eq_true rfl) (Nat.le_of_ble_eq_true rfl) rfl dL_law_976 (fun r976 en2 hw => ?_)
  obtain ⟨rfl, e_tt, fr⟩ := hw
  have e_past := (fr 12 (by omega)).trans e_past
  have e_text := (fr 81 (by omega)).trans e_text
  have e_reader := (fr 83 (by omega)).trans e_reader
  have e_rowso := (fr 96 (by omega)).trans e_rowso
  have e_night := (fr 98 (by omega)).trans e_night
  have e_model := (fr 100 (by omega)).trans e_model
  have e_tbytes := (fr 82 (by omega)).trans e_tbytes
  have e_rnumarr := (fr 95 (by omega)).trans e_rnumarr
  have e_rallarr := (fr 97 (by omega)).trans e_rallarr
  have e_nmostarr := (fr 99 (by omega)).trans e_nmostarr
  have e_mwarr := (fr 101 (by omega)).trans e_mwarr
  have e_mnamesarr := (fr 102 (by omega)).trans e_mnamesarr
  have e_mkeptarr := (fr 103 (by omega)).trans e_mkeptarr
  have e_mtextarr := (fr 104 (by omega)).trans e_mtextarr
  have e_mrefusedarr := (fr 105 (by omega)).trans e_mrefusedarr
  have e_miwordarr := (fr 106 (by omega)).trans e_miwordarr
  have e_minamearr := (fr 107 (by omega)).trans e_minamearr
  have e_mnumberarr := (fr 108 (by omega)).trans e_mnumberarr
  have e_mleftarr := (fr 109 (by omega)).trans e_mleftarr
  have e_ringarr := (fr 13 (by omega)).trans e_ringarr
  have e_imgarr := (fr 58 (by omega)).trans e_imgarr
  have H_now := H_now.fr (fun j h1 h2 => fr j (by omega))
  have H_draft := H_draft.fr (fun j h1 h2 => fr j (by omega))
  have F_ring := fun i (hi : i < 4) => (F_ring i hi).fr (fun j h1 h2 => fr j (by omega))
  have F_imgs := fun i (hi : i < 2) => (F_imgs i hi).fr (fun j h1 h2 => fr j (by omega))
  refine G_aload_n hC 2 2 rfl rfl dL_law_979 ?_
  refine G_aload_n hC 0 0 rfl rfl dL_law_980 ?_
  refine G_iload_n hC 3 3 rfl rfl dL_law_981 ?_
  refine G_iconst hC (v := 1) (by decide) dL_law_982 ?_
  refine G_iadd hC dL_law_983 ?_
  refine G_sld hC hX hbl hbA (vin hi h8 hL 1 (by decide)) dL_law_984 ?_
  refine G_cVi (st := [.int q976.1]) hC _ 100 (by omega) (c_X11_count  l (by omega) e_model e_mwarr e_mrefusedarr h985) (cwV 1 hC.hts gL_law_X11_count rfl rfl rfl (by decide +kernel) ⟨Nat.le_of_ble_eq_true rfl, Nat.le_of_ble_eq_true rfl⟩) e_model rfl rfl (Nat.le_of_ble_eq_true rfl) (Nat.le_of_ble_eq_true rfl) (Nat.le_of_ble_eq_true rfl) rfl dL_law_985 (fun r985 en3 hw => ?_)
  obtain ⟨rfl, e_mrefusedarr, fr⟩ := hw
  have e_tt := (fr 0 (by omega)).trans e_tt
  have e_past := (fr 12 (by omega)).trans e_past
  have e_text := (fr 81 (by omega)).trans e_text
  have e_reader := (fr 83 (by omega)).trans e_reader
  have e_rowso := (fr 96 (by omega)).trans e_rowso
  have e_night := (fr 98 (by omega)).trans e_night
  have e_model := (fr 100 (by omega)).trans e_model
  have e_tbytes := (fr 82 (by omega)).trans e_tbytes
  have e_rnumarr := (fr 95 (by omega)).trans e_rnumarr
  have e_rallarr := (fr 97 (by omega)).trans e_rallarr
  have e_nmostarr := (fr 99 (by omega)).trans e_nmostarr
  have e_mwarr := (fr 101 (by omega)).trans e_mwarr
  have e_mnamesarr := (fr 102 (by omega)).trans e_mnamesarr
  have e_mkeptarr := (fr 103 (by omega)).trans e_mkeptarr
  have e_mtextarr := (fr 104 (by omega)).trans e_mtextarr
  have e_miwordarr := (fr 106 (by omega)).trans e_miwordarr
  have e_minamearr := (fr 107 (by omega)).trans e_minamearr
  have e_mnumberarr := (fr 108 (by omega)).trans e_mnumberarr
  have e_mleftarr := (fr 109 (by omega)).trans e_mleftarr
  have e_ringarr := (fr 13 (by omega)).trans e_ringarr
  have e_imgarr := (fr 58 (by omega)).trans e_imgarr
  have H_now := H_now.fr (fun j h1 h2 => fr j (by omega))
  have H_draft := H_draft.fr (fun j h1 h2 => fr j (by omega))
  have F_ring := fun i (hi : i < 4) => (F_ring i hi).fr (fun j h1 h2 => fr j (by omega))
  have F_imgs := fun i (hi : i < 2) => (F_imgs i hi).fr (fun j h1 h2 => fr j (by omega))
  refine G_icmp_eq hC 1007 dL_law_988 (by decide) (fun _ => ?_) (fun z => absurd heq z)
  exact K _ _ _ _ _ _ _ _ _ _ _ _ _ _ _ _ _ _ _ _ _ _ _ _ _ _ _ _ _ _ _ _ _ _ _ _ _ _ _ _ _ _ _ _ _ _ _ _ _ _ _ _ ⟨e_tt, e_past, e_text, e_reader, e_rowso, e_night, e_model, e_tbytes, e_rnumarr, e_rallarr, e_nmostarr, e_mwarr, e_mnamesarr, e_mkeptarr, e_mtextarr, e_mrefusedarr, e_miwordarr, e_minamearr, e_mnumberarr, e_mleftarr, e_ringarr, e_imgarr, H_now, H_draft, F_ring, F_imgs⟩ hR2
set_option maxHeartbeats 4000000 in
set_option maxRecDepth 100000 in
theorem lc_digest {p : Program} {l : Launch} {e : Env} {s : State} {m : MethodId} {below : List Frame} {meth : Method} {c : Code} {D : va_G} {cs : Nat → ClassId} {sa : Nat → Nat} {ad : Nat → Nat} {b L : Nat} {xs : Nat → Int32} (hL : L ≤ 4096) (hX : va_X b L xs s s.heap) (hbl : b < s.heap.size) (hC : Ck p s m #[Value.ref b] c code 4 wsL_law RL D cs sa 110 ad (fun q => s.heap.size ≤ q)) {i : Nat} {x3 : Int32} (hi : x3 = nI i) (h8 : i + 8 ≤ L) {en1 : Nat → va_E} {keptImages : Int32} {fab : Int64} {fbe : Int64} {bads : Int32} {noes : Int32} {fulls : Int32} {now : HallV} {bl : Int32} {kp : Int32} {ring : Nat → HallV} {imgs : Nat → HallV} {tlen : Int32} {tby : Nat → Int32} {rkind : Int32} {rstart : Int32} {rbehind : Int32} {rname : Int64} {ritems : Int32} {rfault : Int32} {rrefused : Int32} {draft : HallV} {rnums : Nat → Int32} {rall : Nat → Int32} {rheld : Int32} {rsecs : Int32} {rhelp : Int32} {rna : Int32} {rout : Int32} {rmiss : Int64} {nmost : Nat → Int32} {nlearnt : Int32} {mw : Nat → Int32} {mnames : Nat → Int64} {mkept : Nat → Int32} {mtext : Nat → Int32} {mtexted : Int32} {mundo : Int32} {mabove : Int64} {mbelow : Int64} {mrefused : Nat → Int32} {miword : Nat → Int32} {miname : Nat → Int64} {mnumber : Nat → Int32} {mitems : Int32} {mat : Int32} {mfault : Int32} {mtakes : Int32} {mmisses : Int64} {mbest : Int64} {mleft : Nat → Int32} {mh : Int64} (hF : LFacts cs ad en1 keptImages fab fbe bads noes fulls now bl kp ring imgs tlen tby rkind rstart rbehind rname ritems rfault rrefused draft rnums rall rheld rsecs rhelp rna rout rmiss nmost nlearnt mw mnames mkept mtext mtexted mundo mabove mbelow mrefused miword miname mnumber mitems mat mfault mtakes mmisses mbest mleft mh) (hR : LRel keptImages fab fbe bads noes fulls now bl kp ring imgs tlen tby rkind rstart rbehind rname ritems rfault rrefused draft rnums rall rheld rsecs rhelp rna rout rmiss nmost nlearnt mw mnames mkept mtext mtexted mundo mabove mbelow mrefused miword miname mnumber mitems mat mfault mtakes mmisses mbest mleft mh) (K : ∀ (en2 : Nat → va_E) (keptImages : Int32) (fab : Int64) (fbe : Int64) (bads : Int32) (noes : Int32) (fulls : Int32) (now : HallV) (bl : Int32) (kp : Int32) (ring : Nat → HallV) (imgs : Nat → HallV) (tlen : Int32) (tby : Nat → Int32) (rkind : Int32) (rstart : Int32) (rbehind : Int32) (rname : Int64) (ritems : Int32) (rfault : Int32) (rrefused : Int32) (draft : HallV) (rnums : Nat → Int32) (rall : Nat → Int32) (rheld : Int32) (rsecs : Int32) (rhelp : Int32) (rna : Int32) (rout : Int32) (rmiss : Int64) (nmost : Nat → Int32) (nlearnt : Int32) (mw : Nat → Int32) (mnames : Nat → Int64) (mkept : Nat → Int32) (mtext : Nat → Int32) (mtexted : Int32) (mundo : Int32) (mabove : Int64) (mbelow : Int64) (mrefused : Nat → Int32) (miword : Nat → Int32) (miname : Nat → Int64) (mnumber : Nat → Int32) (mitems : Int32) (mat : Int32) (mfault : Int32) (mtakes : Int32) (mmisses : Int64) (mbest : Int64) (mleft : Nat → Int32) (mh : Int64), LFacts cs ad en2 keptImages fab fbe bads noes fulls now bl kp ring imgs tlen tby rkind rstart rbehind rname ritems rfault rrefused draft rnums rall rheld rsecs rhelp rna rout rmiss nmost nlearnt mw mnames mkept mtext mtexted mundo mabove mbelow mrefused miword miname mnumber mitems mat mfault mtakes mmisses mbest mleft mh → LRel keptImages fab fbe bads noes fulls now bl kp ring imgs tlen tby rkind rstart rbehind rname ritems rfault rrefused draft rnums rall rheld rsecs rhelp rna rout rmiss nmost nlearnt mw mnames mkept mtext mtexted mundo mabove mbelow mrefused miword miname mnumber mitems mat mfault mtakes mmisses mbest mleft mh → G p l e room_1 s m #[Value.ref b] below meth c D 110 ad (fun q => s.heap.size ≤ q) 4 110 6275 (lw_Z below #[Value.ref b] s) en2 1007 [(0, .ref b), (1, .ref (ad 0)), (2, .ref (ad 100)), (3, .int x3)] []) : G p l e room_1 s m #[Value.ref b] below meth c D 110 ad (fun q => s.heap.size ≤ q) 4 110 6275 (lw_Z below #[Value.ref b] s) en1 993 [(0, .ref b), (1, .ref (ad 0)), (2, .ref (ad 100)), (3, .int x3)] [] := by
  have hbA : ¬ (fun q => s.heap.size ≤ q) b := Nat.not_le.mpr hbl
  obtain ⟨e_tt, e_past, e_text, e_reader, e_rowso, e_night, e_model, e_tbytes, e_rnumarr, e_rallarr, e_nmostarr, e_mwarr, e_mnamesarr, e_mkeptarr, e_mtextarr, e_mrefusedarr, e_miwordarr, e_minamearr, e_mnumberarr, e_mleftarr, e_ringarr, e_imgarr, H_now, H_draft, F_ring, F_imgs⟩ := hF
  obtain ⟨q994, q998, h994, h998, heq, hR2⟩ := r_digest (fab := fab) (fbe := fbe) (now := now) (kp := kp) (tlen := tlen) (mw := mw) (mnames := mnames) (mtexted := mtexted) (mundo := mundo) (mabove := mabove) (mbelow := mbelow) (mh := mh) hR 
  refine G_aload_n hC 1 1 rfl rfl dL_law_993 ?_
  refine G_cVl (st := []) hC _ 0 (by omega) (c_X10_digest  l (by omega) e_tt e_past e_text H_now h994) (cwV 0 hC.hts gL_law_X10_digest rfl rfl rfl (by decide +kernel) ⟨Nat.le_of_ble_eq_true rfl, Nat.le_of_ble_eq_true rfl⟩) e_tt rfl rfl (Nat.le_of_ble_eq_true rfl) (Nat.le_of_ble_eq_true rfl) (Nat.le_of_ble_eq_true rfl) rfl dL_law_994 (fun r994 enx hw => ?_)
  obtain ⟨rfl, rfl⟩ := hw
  refine G_aload_n hC 2 2 rfl rfl dL_law_997 ?_
  refine G_cVl (st := [.long q994]) hC _ 100 (by omega) (c_X11_digest  l (by omega) e_model e_mwarr e_mnamesarr h998) (cwV 0 hC.hts gL_law_X11_digest rfl rfl rfl (by decide +kernel) ⟨Nat.le_of_ble_eq_true rfl, Nat.le_of_ble_eq_true rfl⟩) e_model rfl rfl (Nat.le_of_ble_eq_true rfl) (Nat.le_of_ble_eq_true rfl) (Nat.le_of_ble_eq_true rfl) rfl dL_law_998 (fun r998 en2 hw => ?_)
  obtain ⟨rfl, e_model, fr⟩ := hw
  have e_tt := (fr 0 (by omega)).trans e_tt
  have e_past := (fr 12 (by omega)).trans e_past
  have e_text := (fr 81 (by omega)).trans e_text
  have e_reader := (fr 83 (by omega)).trans e_reader
  have e_rowso := (fr 96 (by omega)).trans e_rowso
  have e_night := (fr 98 (by omega)).trans e_night
  have e_tbytes := (fr 82 (by omega)).trans e_tbytes
  have e_rnumarr := (fr 95 (by omega)).trans e_rnumarr
  have e_rallarr := (fr 97 (by omega)).trans e_rallarr
  have e_nmostarr := (fr 99 (by omega)).trans e_nmostarr
  have e_mwarr := (fr 101 (by omega)).trans e_mwarr
  have e_mnamesarr := (fr 102 (by omega)).trans e_mnamesarr
  have e_mkeptarr := (fr 103 (by omega)).trans e_mkeptarr
  have e_mtextarr := (fr 104 (by omega)).trans e_mtextarr
  have e_mrefusedarr := (fr 105 (by omega)).trans e_mrefusedarr
  have e_miwordarr := (fr 106 (by omega)).trans e_miwordarr
  have e_minamearr := (fr 107 (by omega)).trans e_minamearr
  have e_mnumberarr := (fr 108 (by omega)).trans e_mnumberarr
  have e_mleftarr := (fr 109 (by omega)).trans e_mleftarr
  have e_ringarr := (fr 13 (by omega)).trans e_ringarr
  have e_imgarr := (fr 58 (by omega)).trans e_imgarr
  have H_now := H_now.fr (fun j h1 h2 => fr j (by omega))
  have H_draft := H_draft.fr (fun j h1 h2 => fr j (by omega))
  have F_ring := fun i (hi : i < 4) => (F_ring i hi).fr (fun j h1 h2 => fr j (by omega))
  have F_imgs := fun i (hi : i < 2) => (F_imgs i hi).fr (fun j h1 h2 => fr j (by omega))
  refine G_lcmp hC dL_law_1001 ?_
  refine G_if_eq hC 1007 dL_law_1002 (by decide) (fun _ => ?_) (fun z => (lcmp_ne heq z).elim)
  exact K _ _ _ _ _ _ _ _ _ _ _ _ _ _ _ _ _ _ _ _ _ _ _ _ _ _ _ _ _ _ _ _ _ _ _ _ _ _ _ _ _ _ _ _ _ _ _ _ _ _ _ _ ⟨e_tt, e_past, e_text, e_reader, e_rowso, e_night, e_model, e_tbytes, e_rnumarr, e_rallarr, e_nmostarr, e_mwarr, e_mnamesarr, e_mkeptarr, e_mtextarr, e_mrefusedarr, e_miwordarr, e_minamearr, e_mnumberarr, e_mleftarr, e_ringarr, e_imgarr, H_now, H_draft, F_ring, F_imgs⟩ hR2
theorem lt8 {i L : Nat} (hL : L ≤ 4096) (hi : i ≤ L) (c : ¬ Int32.ofNat L - (8 : Int32) < nI i) : i + 8 ≤ L := by
  have h1 : (Int32.ofNat L).toInt = (L : Int) := nI_toInt (by omega)
  have h2 : (nI i).toInt = (i : Int) := nI_toInt (by omega)
  rw [Int32.lt_iff_toInt_lt, h2] at c
  have h3 : (Int32.ofNat L - (8 : Int32)).toInt = (L : Int) - 8 := by
    rw [Int32.toInt_sub, h1, show (8 : Int32).toInt = 8 from rfl]
    rw [Int.bmod_eq_of_le] <;> omega
  rw [h3] at c
  omega
set_option maxHeartbeats 4000000 in
set_option maxRecDepth 100000 in
theorem law_loop {p : Program} {l : Launch} {e : Env} {s : State} {m : MethodId} {below : List Frame} {meth : Method} {c : Code} {D : va_G} {cs : Nat → ClassId} {sa : Nat → Nat} {ad : Nat → Nat} {b L : Nat} {xs : Nat → Int32} (hL : L ≤ 4096) (hX : va_X b L xs s s.heap) (hbl : b < s.heap.size) (hC : Ck p s m #[Value.ref b] c code 4 wsL_law RL D cs sa 110 ad (fun q => s.heap.size ≤ q)) (hr : meth.sig.returnType = ret) (hlk : meth.locks = false) : ∀ (k i : Nat), L + 1 ≤ i + k → i ≤ L → ∀ (x3 : Int32), x3 = nI i → ∀ (en1 : Nat → va_E) (keptImages : Int32) (fab : Int64) (fbe : Int64) (bads : Int32) (noes : Int32) (fulls : Int32) (now : HallV) (bl : Int32) (kp : Int32) (ring : Nat → HallV) (imgs : Nat → HallV) (tlen : Int32) (tby : Nat → Int32) (rkind : Int32) (rstart : Int32) (rbehind : Int32) (rname : Int64) (ritems : Int32) (rfault : Int32) (rrefused : Int32) (draft : HallV) (rnums : Nat → Int32) (rall : Nat → Int32) (rheld : Int32) (rsecs : Int32) (rhelp : Int32) (rna : Int32) (rout : Int32) (rmiss : Int64) (nmost : Nat → Int32) (nlearnt : Int32) (mw : Nat → Int32) (mnames : Nat → Int64) (mkept : Nat → Int32) (mtext : Nat → Int32) (mtexted : Int32) (mundo : Int32) (mabove : Int64) (mbelow : Int64) (mrefused : Nat → Int32) (miword : Nat → Int32) (miname : Nat → Int64) (mnumber : Nat → Int32) (mitems : Int32) (mat : Int32) (mfault : Int32) (mtakes : Int32) (mmisses : Int64) (mbest : Int64) (mleft : Nat → Int32) (mh : Int64), LFacts cs ad en1 keptImages fab fbe bads noes fulls now bl kp ring imgs tlen tby rkind rstart rbehind rname ritems rfault rrefused draft rnums rall rheld rsecs rhelp rna rout rmiss nmost nlearnt mw mnames mkept mtext mtexted mundo mabove mbelow mrefused miword miname mnumber mitems mat mfault mtakes mmisses mbest mleft mh → LRel keptImages fab fbe bads noes fulls now bl kp ring imgs tlen tby rkind rstart rbehind rname ritems rfault rrefused draft rnums rall rheld rsecs rhelp rna rout rmiss nmost nlearnt mw mnames mkept mtext mtexted mundo mabove mbelow mrefused miword miname mnumber mitems mat mfault mtakes mmisses mbest mleft mh → G p l e room_1 s m #[Value.ref b] below meth c D 110 ad (fun q => s.heap.size ≤ q) 4 110 6275 (lw_Z below #[Value.ref b] s) en1 18 [(0, .ref b), (1, .ref (ad 0)), (2, .ref (ad 100)), (3, .int x3)] [] := by
  have hbA : ¬ (fun q => s.heap.size ≤ q) b := Nat.not_le.mpr hbl
  intro k
  induction k with
  | zero => intro i h1 h2; exact absurd h1 (by omega)
  | succ k ih =>
    intro i hik hiL x3 hi en1 keptImages fab fbe bads noes fulls now bl kp ring imgs tlen tby rkind rstart rbehind rname ritems rfault rrefused draft rnums rall rheld rsecs rhelp rna rout rmiss nmost nlearnt mw mnames mkept mtext mtexted mundo mabove mbelow mrefused miword miname mnumber mitems mat mfault mtakes mmisses mbest mleft mh hF hR
    refine G_iload_n hC 3 3 rfl rfl dL_law_18 ?_
    refine G_aload_n hC 0 0 rfl rfl dL_law_19 ?_
    refine G_slen2 hC hX hbl hbA dL_law_20 ?_
    refine G_bipush hC (v := 8) (by decide) dL_law_21 ?_
    refine G_isub hC dL_law_23 ?_
    refine G_icmp_gt hC 1013 dL_law_24 (by decide) (fun _ => ?_) (fun c24 => ?_)
    · refine G_iconst hC (v := 1) (by decide) dL_law_1013 ?_
      intro H locs ls hP hS hl
      refine va_forget (fun q hq => hS.2.2 q hq) ?_
      refine W.widen (k := 600000) (n := 7302250) (Nat.le_of_ble_eq_true rfl) (Nat.le_of_ble_eq_true rfl) ?_
      exact lw_ret hC.1.1 hC.1.2.1 hr hlk dL_law_1014
    have h8 : i + 8 ≤ L := lt8 hL hiL (by rw [hi] at c24; exact c24)
    have K : ∀ (en2 : Nat → va_E) (keptImages : Int32) (fab : Int64) (fbe : Int64) (bads : Int32) (noes : Int32) (fulls : Int32) (now : HallV) (bl : Int32) (kp : Int32) (ring : Nat → HallV) (imgs : Nat → HallV) (tlen : Int32) (tby : Nat → Int32) (rkind : Int32) (rstart : Int32) (rbehind : Int32) (rname : Int64) (ritems : Int32) (rfault : Int32) (rrefused : Int32) (draft : HallV) (rnums : Nat → Int32) (rall : Nat → Int32) (rheld : Int32) (rsecs : Int32) (rhelp : Int32) (rna : Int32) (rout : Int32) (rmiss : Int64) (nmost : Nat → Int32) (nlearnt : Int32) (mw : Nat → Int32) (mnames : Nat → Int64) (mkept : Nat → Int32) (mtext : Nat → Int32) (mtexted : Int32) (mundo : Int32) (mabove : Int64) (mbelow : Int64) (mrefused : Nat → Int32) (miword : Nat → Int32) (miname : Nat → Int64) (mnumber : Nat → Int32) (mitems : Int32) (mat : Int32) (mfault : Int32) (mtakes : Int32) (mmisses : Int64) (mbest : Int64) (mleft : Nat → Int32) (mh : Int64), LFacts cs ad en2 keptImages fab fbe bads noes fulls now bl kp ring imgs tlen tby rkind rstart rbehind rname ritems rfault rrefused draft rnums rall rheld rsecs rhelp rna rout rmiss nmost nlearnt mw mnames mkept mtext mtexted mundo mabove mbelow mrefused miword miname mnumber mitems mat mfault mtakes mmisses mbest mleft mh → LRel keptImages fab fbe bads noes fulls now bl kp ring imgs tlen tby rkind rstart rbehind rname ritems rfault rrefused draft rnums rall rheld rsecs rhelp rna rout rmiss nmost nlearnt mw mnames mkept mtext mtexted mundo mabove mbelow mrefused miword miname mnumber mitems mat mfault mtakes mmisses mbest mleft mh → G p l e room_1 s m #[Value.ref b] below meth c D 110 ad (fun q => s.heap.size ≤ q) 4 110 6275 (lw_Z below #[Value.ref b] s) en2 1007 [(0, .ref b), (1, .ref (ad 0)), (2, .ref (ad 100)), (3, .int x3)] [] := by
      intro en2 keptImages fab fbe bads noes fulls now bl kp ring imgs tlen tby rkind rstart rbehind rname ritems rfault rrefused draft rnums rall rheld rsecs rhelp rna rout rmiss nmost nlearnt mw mnames mkept mtext mtexted mundo mabove mbelow mrefused miword miname mnumber mitems mat mfault mtakes mmisses mbest mleft mh hF2 hR2
      have hv : x3 + (8 : Int32) = nI (i + 8) := by rw [hi]; exact nI_add i 8
      refine G_iinc hC 3 3 (z := 8) (v := nI (i + 8)) [(3, .int (nI (i + 8))), (0, .ref b), (1, .ref (ad 0)), (2, .ref (ad 100))] rfl hv (by decide) rfl dL_law_1007 ?_
      refine G_goto hC 18 dL_law_1010 (by decide) ?_
      refine G_lv [1, 2, 3, 0] rfl ?_
      exact ih (i + 8) (by omega) h8 (nI (i + 8)) rfl en2 keptImages fab fbe bads noes fulls now bl kp ring imgs tlen tby rkind rstart rbehind rname ritems rfault rrefused draft rnums rall rheld rsecs rhelp rna rout rmiss nmost nlearnt mw mnames mkept mtext mtexted mundo mabove mbelow mrefused miword miname mnumber mitems mat mfault mtakes mmisses mbest mleft mh hF2 hR2
    refine G_aload_n hC 0 0 rfl rfl dL_law_27 ?_
    refine G_iload_n hC 3 3 rfl rfl dL_law_28 ?_
    refine G_sld hC hX hbl hbA (vin0 hi h8 hL) dL_law_29 ?_
    refine G_bipush hC (v := 31) (by decide) dL_law_30 ?_
    refine G_iand hC dL_law_32 ?_
    by_cases c0 : (xs x3.toNatClampNeg &&& (31 : Int32)) = (0 : Int32)
    · refine G_tabIn hC 164 dL_law_33 (by rw [c0]; decide) (by rw [c0]; decide) (off := 131) (by rw [c0]; decide) (by decide) ?_
      exact lc_one hL hX hbl hC hi h8 hF hR K
    by_cases c1 : (xs x3.toNatClampNeg &&& (31 : Int32)) = (1 : Int32)
    · refine G_tabIn hC 271 dL_law_33 (by rw [c1]; decide) (by rw [c1]; decide) (off := 238) (by rw [c1]; decide) (by decide) ?_
      exact lc_put hL hX hbl hC hi h8 hF hR K
    by_cases c2 : (xs x3.toNatClampNeg &&& (31 : Int32)) = (2 : Int32)
    · refine G_tabIn hC 304 dL_law_33 (by rw [c2]; decide) (by rw [c2]; decide) (off := 271) (by rw [c2]; decide) (by decide) ?_
      exact lc_addTry hL hX hbl hC hi h8 hF hR K
    by_cases c3 : (xs x3.toNatClampNeg &&& (31 : Int32)) = (3 : Int32)
    · refine G_tabIn hC 347 dL_law_33 (by rw [c3]; decide) (by rw [c3]; decide) (off := 314) (by rw [c3]; decide) (by decide) ?_
      exact lc_held hL hX hbl hC hi h8 hF hR K
    by_cases c4 : (xs x3.toNatClampNeg &&& (31 : Int32)) = (4 : Int32)
    · refine G_tabIn hC 380 dL_law_33 (by rw [c4]; decide) (by rw [c4]; decide) (off := 347) (by rw [c4]; decide) (by decide) ?_
      exact lc_think hL hX hbl hC hi h8 hF hR K
    by_cases c5 : (xs x3.toNatClampNeg &&& (31 : Int32)) = (5 : Int32)
    · refine G_tabIn hC 403 dL_law_33 (by rw [c5]; decide) (by rw [c5]; decide) (off := 370) (by rw [c5]; decide) (by decide) ?_
      exact lc_days hL hX hbl hC hi h8 hF hR K
    by_cases c6 : (xs x3.toNatClampNeg &&& (31 : Int32)) = (6 : Int32)
    · refine G_tabIn hC 426 dL_law_33 (by rw [c6]; decide) (by rw [c6]; decide) (off := 393) (by rw [c6]; decide) (by decide) ?_
      exact lc_undo hL hX hbl hC hi h8 hF hR K
    by_cases c7 : (xs x3.toNatClampNeg &&& (31 : Int32)) = (7 : Int32)
    · refine G_tabIn hC 439 dL_law_33 (by rw [c7]; decide) (by rw [c7]; decide) (off := 406) (by rw [c7]; decide) (by decide) ?_
      exact lc_type hL hX hbl hC hi h8 hF hR K
    by_cases c8 : (xs x3.toNatClampNeg &&& (31 : Int32)) = (8 : Int32)
    · refine G_tabIn hC 502 dL_law_33 (by rw [c8]; decide) (by rw [c8]; decide) (off := 469) (by rw [c8]; decide) (by decide) ?_
      exact lc_clear hL hX hbl hC hi h8 hF hR K
    by_cases c9 : (xs x3.toNatClampNeg &&& (31 : Int32)) = (9 : Int32)
    · refine G_tabIn hC 515 dL_law_33 (by rw [c9]; decide) (by rw [c9]; decide) (off := 482) (by rw [c9]; decide) (by decide) ?_
      exact lc_read hL hX hbl hC hi h8 hF hR K
    by_cases c10 : (xs x3.toNatClampNeg &&& (31 : Int32)) = (10 : Int32)
    · refine G_tabIn hC 528 dL_law_33 (by rw [c10]; decide) (by rw [c10]; decide) (off := 495) (by rw [c10]; decide) (by decide) ?_
      exact lc_comes hL hX hbl hC hi h8 hF hR K
    by_cases c11 : (xs x3.toNatClampNeg &&& (31 : Int32)) = (11 : Int32)
    · refine G_tabIn hC 561 dL_law_33 (by rw [c11]; decide) (by rw [c11]; decide) (off := 528) (by rw [c11]; decide) (by decide) ?_
      exact lc_best hL hX hbl hC hi h8 hF hR K
    by_cases c12 : (xs x3.toNatClampNeg &&& (31 : Int32)) = (12 : Int32)
    · refine G_tabIn hC 594 dL_law_33 (by rw [c12]; decide) (by rw [c12]; decide) (off := 561) (by rw [c12]; decide) (by decide) ?_
      exact lc_tell hL hX hbl hC hi h8 hF hR K
    by_cases c13 : (xs x3.toNatClampNeg &&& (31 : Int32)) = (13 : Int32)
    · refine G_tabIn hC 627 dL_law_33 (by rw [c13]; decide) (by rw [c13]; decide) (off := 594) (by rw [c13]; decide) (by decide) ?_
      exact lc_has hL hX hbl hC hi h8 hF hR K
    by_cases c14 : (xs x3.toNatClampNeg &&& (31 : Int32)) = (14 : Int32)
    · refine G_tabIn hC 660 dL_law_33 (by rw [c14]; decide) (by rw [c14]; decide) (off := 627) (by rw [c14]; decide) (by decide) ?_
      exact lc_whose hL hX hbl hC hi h8 hF hR K
    by_cases c15 : (xs x3.toNatClampNeg &&& (31 : Int32)) = (15 : Int32)
    · refine G_tabIn hC 673 dL_law_33 (by rw [c15]; decide) (by rw [c15]; decide) (off := 640) (by rw [c15]; decide) (by decide) ?_
      exact lc_odds hL hX hbl hC hi h8 hF hR K
    by_cases c16 : (xs x3.toNatClampNeg &&& (31 : Int32)) = (16 : Int32)
    · refine G_tabIn hC 696 dL_law_33 (by rw [c16]; decide) (by rw [c16]; decide) (off := 663) (by rw [c16]; decide) (by decide) ?_
      exact lc_next hL hX hbl hC hi h8 hF hR K
    by_cases c17 : (xs x3.toNatClampNeg &&& (31 : Int32)) = (17 : Int32)
    · refine G_tabIn hC 709 dL_law_33 (by rw [c17]; decide) (by rw [c17]; decide) (off := 676) (by rw [c17]; decide) (by decide) ?_
      exact lc_question hL hX hbl hC hi h8 hF hR K
    by_cases c18 : (xs x3.toNatClampNeg &&& (31 : Int32)) = (18 : Int32)
    · refine G_tabIn hC 742 dL_law_33 (by rw [c18]; decide) (by rw [c18]; decide) (off := 709) (by rw [c18]; decide) (by decide) ?_
      exact lc_ask hL hX hbl hC hi h8 hF hR K
    by_cases c19 : (xs x3.toNatClampNeg &&& (31 : Int32)) = (19 : Int32)
    · refine G_tabIn hC 755 dL_law_33 (by rw [c19]; decide) (by rw [c19]; decide) (off := 722) (by rw [c19]; decide) (by decide) ?_
      exact lc_index hL hX hbl hC hi h8 hF hR K
    by_cases c20 : (xs x3.toNatClampNeg &&& (31 : Int32)) = (20 : Int32)
    · refine G_tabIn hC 768 dL_law_33 (by rw [c20]; decide) (by rw [c20]; decide) (off := 735) (by rw [c20]; decide) (by decide) ?_
      exact lc_takenFor hL hX hbl hC hi h8 hF hR K
    by_cases c21 : (xs x3.toNatClampNeg &&& (31 : Int32)) = (21 : Int32)
    · refine G_tabIn hC 801 dL_law_33 (by rw [c21]; decide) (by rw [c21]; decide) (off := 768) (by rw [c21]; decide) (by decide) ?_
      exact lc_learn hL hX hbl hC hi h8 hF hR K
    by_cases c22 : (xs x3.toNatClampNeg &&& (31 : Int32)) = (22 : Int32)
    · refine G_tabIn hC 844 dL_law_33 (by rw [c22]; decide) (by rw [c22]; decide) (off := 811) (by rw [c22]; decide) (by decide) ?_
      exact lc_rests hL hX hbl hC hi h8 hF hR K
    by_cases c23 : (xs x3.toNatClampNeg &&& (31 : Int32)) = (23 : Int32)
    · refine G_tabIn hC 877 dL_law_33 (by rw [c23]; decide) (by rw [c23]; decide) (off := 844) (by rw [c23]; decide) (by decide) ?_
      exact lc_part hL hX hbl hC hi h8 hF hR K
    by_cases c24 : (xs x3.toNatClampNeg &&& (31 : Int32)) = (24 : Int32)
    · refine G_tabIn hC 901 dL_law_33 (by rw [c24]; decide) (by rw [c24]; decide) (off := 868) (by rw [c24]; decide) (by decide) ?_
      exact lc_image hL hX hbl hC hi h8 hF hR K
    by_cases c25 : (xs x3.toNatClampNeg &&& (31 : Int32)) = (25 : Int32)
    · refine G_tabIn hC 924 dL_law_33 (by rw [c25]; decide) (by rw [c25]; decide) (off := 891) (by rw [c25]; decide) (by decide) ?_
      exact lc_from hL hX hbl hC hi h8 hF hR K
    by_cases c26 : (xs x3.toNatClampNeg &&& (31 : Int32)) = (26 : Int32)
    · refine G_tabIn hC 947 dL_law_33 (by rw [c26]; decide) (by rw [c26]; decide) (off := 914) (by rw [c26]; decide) (by decide) ?_
      exact lc_status hL hX hbl hC hi h8 hF hR K
    by_cases c27 : (xs x3.toNatClampNeg &&& (31 : Int32)) = (27 : Int32)
    · refine G_tabIn hC 970 dL_law_33 (by rw [c27]; decide) (by rw [c27]; decide) (off := 937) (by rw [c27]; decide) (by decide) ?_
      exact lc_count hL hX hbl hC hi h8 hF hR K
    by_cases c28 : (xs x3.toNatClampNeg &&& (31 : Int32)) = (28 : Int32)
    · refine G_tabIn hC 993 dL_law_33 (by rw [c28]; decide) (by rw [c28]; decide) (off := 960) (by rw [c28]; decide) (by decide) ?_
      exact lc_digest hL hX hbl hC hi h8 hF hR K
    refine G_tabOut hC 1007 dL_law_33 (sw_out 0 28 (by decide) (fun z h0 h1 => by
      rcases (show z = 0 ∨ z = 1 ∨ z = 2 ∨ z = 3 ∨ z = 4 ∨ z = 5 ∨ z = 6 ∨ z = 7 ∨ z = 8 ∨ z = 9 ∨ z = 10 ∨ z = 11 ∨ z = 12 ∨ z = 13 ∨ z = 14 ∨ z = 15 ∨ z = 16 ∨ z = 17 ∨ z = 18 ∨ z = 19 ∨ z = 20 ∨ z = 21 ∨ z = 22 ∨ z = 23 ∨ z = 24 ∨ z = 25 ∨ z = 26 ∨ z = 27 ∨ z = 28 by omega) with rfl | rfl | rfl | rfl | rfl | rfl | rfl | rfl | rfl | rfl | rfl | rfl | rfl | rfl | rfl | rfl | rfl | rfl | rfl | rfl | rfl | rfl | rfl | rfl | rfl | rfl | rfl | rfl | rfl
      · exact c0
      · exact c1
      · exact c2
      · exact c3
      · exact c4
      · exact c5
      · exact c6
      · exact c7
      · exact c8
      · exact c9
      · exact c10
      · exact c11
      · exact c12
      · exact c13
      · exact c14
      · exact c15
      · exact c16
      · exact c17
      · exact c18
      · exact c19
      · exact c20
      · exact c21
      · exact c22
      · exact c23
      · exact c24
      · exact c25
      · exact c26
      · exact c27
      · exact c28)) (by decide) ?_
    exact K en1 keptImages fab fbe bads noes fulls now bl kp ring imgs tlen tby rkind rstart rbehind rname ritems rfault rrefused draft rnums rall rheld rsecs rhelp rna rout rmiss nmost nlearnt mw mnames mkept mtext mtexted mundo mabove mbelow mrefused miword miname mnumber mitems mat mfault mtakes mmisses mbest mleft mh hF hR
