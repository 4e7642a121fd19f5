/-! PURE 9: parts, sets, whose -/
theorem nmv_snoc (ls : List Nat) (d : Nat) : nmv (ls ++ [d]) = 32 * nmv ls + d := by unfold nmv; rw [List.foldl_append]; rfl
theorem dig_nmv : ∀ f (ls : List Nat), ls.length ≤ f → (∀ d ∈ ls, 1 ≤ d ∧ d ≤ 26) → dig f (nmv ls) = ls := by
  intro f
  induction f with
  | zero =>
    intro ls hl _
    have : ls = [] := List.length_eq_zero_iff.mp (by omega)
    subst this; rfl
  | succ f ih =>
    intro ls hl hd
    rcases List.eq_nil_or_concat ls with rfl | ⟨xs, d, rfl⟩
    · rfl
    · have h1 := hd d (by simp)
      rw [List.concat_eq_append, nmv_snoc, dig, if_neg (by omega)]
      have e1 : (32 * nmv xs + d) / 32 = nmv xs := by omega
      have e2 : (32 * nmv xs + d) % 32 = d := by omega
      rw [e1, e2, ih xs (by simp at hl; omega) (fun e he => hd e (by simp [he]))]
theorem nmv_lt (ls : List Nat) : (∀ d ∈ ls, d < 32) → nmv ls < 32 ^ ls.length := by
  have key : ∀ (ls : List Nat) a, (∀ d ∈ ls, d < 32) → ls.foldl (fun a d => 32 * a + d) a < 32 ^ ls.length * (a + 1) := by
    intro ls
    induction ls with
    | nil => intro a _; simp
    | cons d l ih =>
      intro a hd
      have h1 := ih (32 * a + d) (fun e he => hd e (by simp [he]))
      have h2 := hd d (by simp)
      rw [List.foldl_cons, List.length_cons, Nat.pow_succ]
      refine Nat.lt_of_lt_of_le h1 ?_
      rw [Nat.mul_assoc]
      exact Nat.mul_le_mul_left _ (by omega)
  intro h
  have := key ls 0 h
  rw [Nat.zero_add, Nat.mul_one] at this
  exact this
theorem letOfM {n L i : Nat} (hn : n < 2 ^ 63) : ∀ d fu m, d + i = L → d < fu → m < 2 ^ 63 → L ≤ 7 → f_X11_letterOf_L10 fu (nI i) (lN m) (nI L) = some (nI (m / 32 ^ d % 32)) := by
  intro d
  induction d generalizing L with
  | zero =>
    intro fu m hd hf hm h7
    obtain ⟨fu, rfl⟩ : ∃ m, fu = m + 1 := ⟨fu - 1, by omega⟩
    have e : i = L := by omega
    subst e
    rw [f_X11_letterOf_L10, if_pos (Int32.le_refl _), (d32 hm).2, lN_i, Nat.pow_zero, Nat.div_one]
  | succ d ih =>
    intro fu m hd hf hm h7
    obtain ⟨fu, rfl⟩ : ∃ m, fu = m + 1 := ⟨fu - 1, by omega⟩
    obtain ⟨L', rfl⟩ : ∃ m, L = m + 1 := ⟨L - 1, by omega⟩
    rw [f_X11_letterOf_L10, if_neg (nI_ge (a := i) (b := L' + 1) (by omega) (by omega)), (d32 hm).1, pk_m1, ih fu (m / 32) (by omega) (by omega) (by omega) (by omega), Nat.div_div_eq_div_mul, Nat.pow_succ, Nat.mul_comm]
theorem nm_facts {x : Int64} (h : nameOk x) : ∃ n L : Nat, x = lN n ∧ 1 ≤ L ∧ L ≤ 7 ∧ n < 32 ^ 7 ∧ n < 32 ^ L ∧ f_X2_lettersOf x = some (nI L) ∧ f_X11_lettersOf x = some (nI L) ∧ (∀ i, i < 7 → f_X2_letterFromEnd x (nI i) = some (nI (n / 32 ^ i % 32))) ∧ (∀ i, i < L → f_X11_letterOf x (nI i) = some (nI (n / 32 ^ (L - 1 - i) % 32))) ∧ (∀ i, i < L → 1 ≤ n / 32 ^ i % 32 ∧ n / 32 ^ i % 32 ≤ 26) := by
  obtain ⟨ls, hne, hl, hd, rfl⟩ := h
  have d7 := dig_nmv 7 ls hl hd
  have d13 := dig_nmv 13 ls (by omega) hd
  have nb : nmv ls < 32 ^ ls.length := nmv_lt ls (fun d hd' => by have := hd d hd'; omega)
  generalize nmv ls = n at d7 d13 nb ⊢
  have hL : 1 ≤ ls.length := by
    cases ls with
    | nil => exact absurd rfl hne
    | cons a l => simp
  have nL : n < 32 ^ ls.length := nb
  have n7 : n < 32 ^ 7 := Nat.lt_of_lt_of_le nb (Nat.pow_le_pow_right (by decide) hl)
  have h63 : n < 2 ^ 63 := Nat.lt_of_lt_of_le n7 (by decide)
  have hM : f_X11_lettersOf (lN n) = some (nI ls.length) := by
    have := letM 13 FU n 0 (Nat.lt_of_lt_of_le h63 (by decide)) h63 (FU1 (by omega))
    rw [Nat.zero_add, d13] at this
    exact this
  refine ⟨n, ls.length, rfl, hL, hl, n7, nL, ?_, hM, ?_, ?_, ?_⟩
  · have e1 := letC n7 7 FU 0 (by omega) (FU1 (by omega))
    rw [Nat.zero_min, d7] at e1
    exact e1
  · intro i hi
    unfold f_X2_letterFromEnd
    rw [s5 hi h63, andm (k := 5) (m := (31 : Int64)) (by decide) rfl (Nat.lt_of_le_of_lt (Nat.div_le_self _ _) h63), lN_i]
  · intro i hi
    unfold f_X11_letterOf
    rw [hM, Option.bind_some]
    have e : nI ls.length - 1 = nI (ls.length - 1) := nI_sub (b := 1) hL
    rw [e]
    exact letOfM (n := n) h63 (ls.length - 1 - i) FU n (by omega) (FU1 (by omega)) h63 (by omega)
  · have := (dig_all (P := fun d => 1 ≤ d ∧ d ≤ 26) 7 n).mp (by rw [d7]; exact hd)
    rw [d7] at this
    exact this

/-- sets of at most 31, as bits -/
def bits (S : Nat → Bool) : Nat → Nat | 0 => 0 | n + 1 => if S n then bits S n ||| 2 ^ n else bits S n
theorem bits_lt (S : Nat → Bool) : ∀ n, bits S n < 2 ^ n := by
  intro n
  induction n with
  | zero => exact Nat.one_pos
  | succ n ih =>
    have h2 : bits S n < 2 ^ (n + 1) := Nat.lt_of_lt_of_le ih (Nat.pow_le_pow_right (by decide) (by omega))
    rw [bits]
    split
    · exact Nat.or_lt_two_pow h2 (Nat.pow_lt_pow_right (by decide) (by omega))
    · exact h2
theorem bits_tb (S : Nat → Bool) (p : Nat) : ∀ n, (bits S n).testBit p = (decide (p < n) && S p) := by
  intro n
  induction n with
  | zero => simp [bits]
  | succ n ih =>
    rw [bits]
    by_cases q : p = n
    · subst q
      have h0 : (bits S p).testBit p = false := by rw [ih]; simp
      cases h : S p
      · simp [h0]
      · simp [Nat.testBit_or, Nat.testBit_two_pow]
    · have e : decide (p < n + 1) = decide (p < n) := by by_cases h : p < n <;> simp [h] <;> omega
      rw [e]
      cases h : S n
      · simp [ih]
      · simp only [if_true, Nat.testBit_or, ih, Nat.testBit_two_pow]
        simp [Ne.symm q]
theorem nI_or {a b : Nat} (ha : a < 2 ^ 32) (hb : b < 2 ^ 32) : nI a ||| nI b = nI (a ||| b) := by
  apply Int32.toBitVec_inj.mp
  apply BitVec.eq_of_toNat_eq
  have tn : ∀ j, j < 2 ^ 32 → (nI j).toBitVec.toNat = j := fun j hj => pk_tn hj
  rw [Int32.toBitVec_or, BitVec.toNat_or, tn a ha, tn b hb, tn _ (Nat.or_lt_two_pow ha hb)]
theorem shb : ∀ p, p < 31 → (1 : Int32) <<< (nI p &&& (31 : Int32)) = nI (2 ^ p) := by decide +kernel
theorem usn : ∀ p, p < 32 → (((nI p).toUInt32 &&& Int32.toUInt32 31).toBitVec % 32).toNat = p := by decide +kernel
theorem ssn : ∀ p, p < 32 → ((nI p &&& (31 : Int32)).toBitVec.smod 32).toNat = p := by decide +kernel
theorem tb1 {a p : Nat} (ha : a < 2 ^ 31) : nI (a / 2 ^ p) &&& (1 : Int32) = (1 : Int32) ↔ a.testBit p = true := by
  have hq : a / 2 ^ p < 2 ^ 31 := Nat.lt_of_le_of_lt (Nat.div_le_self _ _) ha
  rw [pk_andN (by omega) 1 (by decide), Nat.testBit_eq_decide_div_mod_eq, decide_eq_true_eq, Nat.pow_one]
  exact nI_eq (b := 1) (by omega) (by decide)
theorem isIn_eq {a p : Nat} (ha : a < 2 ^ 31) (hp : p < 32) : f_X10_isIn (nI a) (nI p) = some (if a.testBit p then 1 else 0) ∧ f_X11_holds (nI a) (nI p) = some (if a.testBit p then 1 else 0) := by
  constructor
  · unfold f_X10_isIn
    rw [if_neg (nI_pos (by omega)), if_neg (show ¬ (32 : Int32) ≤ nI p from nI_ge (a := p) (b := 32) hp (by decide)), pk_ushrN (by omega) (nI p) p (usn p hp)]
    by_cases h : a.testBit p = true
    · rw [if_pos ((tb1 ha).mpr h), if_pos h]
    · rw [if_neg (fun z => h ((tb1 ha).mp z)), if_neg h]
  · unfold f_X11_holds
    rw [pk_shrN ha _ p (ssn p hp)]
    by_cases h : a.testBit p = true
    · rw [if_pos ((tb1 ha).mpr h), if_pos h]
    · rw [if_neg (fun z => h ((tb1 ha).mp z)), if_neg h]
/-- a part of one of PEOPLE -/
def ptv (w : Nat → Int32) (nm : Nat → Int64) (p c : Nat) : Int32 := (f_X11_partOf w nm (nI p) (nI c)).getD 0
theorem part_eq {v : HallV} {w : Nat → Int32} {nm : Nat → Int64} {p c : Nat} (hp : PRel v w nm 0 0 p) (hp12 : p < 12) (hc : c < 5) : f_X1_partOf v (nI p) (nI c) = some (ptv w nm p c) ∧ f_X11_partOf w nm (nI p) (nI c) = some (ptv w nm p c) ∧ inN (ptv w nm p c) 0 25 := by
  have key : ∃ r, f_X1_partOf v (nI p) (nI c) = some r ∧ f_X11_partOf w nm (nI p) (nI c) = some r ∧ inN r 0 25 := by
    unfold PRel at hp
    simp only [Nat.zero_add] at hp
    obtain ⟨q0, qn, ⟨q1, i1⟩, ⟨q2, i2⟩, ⟨q3, i3⟩, -⟩ := hp
    obtain ⟨n, L, hx, hL1, hL7, _, _, l1, l2, l3, l4, l5⟩ := nm_facts qn
    have g0 : f_X8_get (7 : Int32) 84 (v.2.1 0) (nI p) (0 : Int32) = some (nm p) := by rw [get_at (wd := 7) (N := 84) (x := nI p) (y := 0) p 0 7 rfl rfl rfl (by omega) (by decide), q0]
    match c, hc with
    | 0, _ =>
      have e1 : f_X1_partOf v (nI p) (nI 0) = Option.bind (f_X2_firstLetter (nm p)) some := by
        show Option.bind (f_X8_get (7 : Int32) 84 (v.2.1 0) (nI p) (0 : Int32)) _ = _
        rw [g0, Option.bind_some]
      have e2 : f_X11_partOf w nm (nI p) (nI 0) = Option.bind (f_X11_letterOf (nm p) (0 : Int32)) (fun q39 => some (q39 - (1 : Int32))) := by
        show (if nI p < 0 ∨ 96 ≤ (nI p).toNatClampNeg then none else _) = _
        rw [gg (by omega) (by omega), nI_clamp (by omega)]
      have f1 : f_X2_firstLetter (nm p) = some (nI (n / 32 ^ (L - 1) % 32) - 1) := by
        unfold f_X2_firstLetter
        have im : imax (0 : Int32) (nI L - (1 : Int32)) = nI (L - 1) := by
          rw [show nI L - (1 : Int32) = nI (L - 1) from nI_sub (b := 1) hL1]
          unfold imax
          by_cases z : L - 1 = 0
          · rw [z]; decide
          · rw [if_pos (show (0 : Int32) < nI (L - 1) from nI_lt (a := 0) (by omega) (by omega))]
        rw [l1, Option.bind_some, im, l3 (L - 1) (by omega), Option.bind_some]
      have f2 : f_X11_letterOf (nm p) (0 : Int32) = some (nI (n / 32 ^ (L - 1) % 32)) := l4 0 (by omega)
      have hb := l5 (L - 1) (by omega)
      rw [e1, e2, f1, f2]
      have es : nI (n / 32 ^ (L - 1) % 32) - (1 : Int32) = nI (n / 32 ^ (L - 1) % 32 - 1) := nI_sub (b := 1) hb.1
      exact ⟨_, rfl, rfl, n / 32 ^ (L - 1) % 32 - 1, es, by omega, by omega⟩
    | 1, _ =>
      have e1 : f_X1_partOf v (nI p) (nI 1) = Option.bind (f_X2_lettersOf (nm p)) some := by
        show Option.bind (f_X8_get (7 : Int32) 84 (v.2.1 0) (nI p) (0 : Int32)) _ = _
        rw [g0, Option.bind_some]
      have e2 : f_X11_partOf w nm (nI p) (nI 1) = Option.bind (f_X11_lettersOf (nm p)) (fun q39 => some q39) := by
        show (if nI p < 0 ∨ 96 ≤ (nI p).toNatClampNeg then none else _) = _
        rw [gg (by omega) (by omega), nI_clamp (by omega)]
      rw [e1, e2, l1, l2]
      exact ⟨_, rfl, rfl, L, rfl, by omega, by omega⟩
    | 2, _ =>
      have e1 : f_X1_partOf v (nI p) (nI 2) = Option.bind (f_X8_number (7 : Int32) 84 (v.2.1 0) (nI p) (1 : Int32)) some := rfl
      have e2 : f_X11_partOf w nm (nI p) (nI 2) = some (w (1 + p)) := by
        show (if nI 1 + nI p < 0 ∨ 960 ≤ (nI 1 + nI p).toNatClampNeg then none else some (w (nI 1 + nI p).toNatClampNeg)) = _
        rw [nI_add, gg (by omega) (by omega), nI_clamp (by omega)]
      obtain ⟨k, hk, _, hk2⟩ := i1
      rw [e1, e2, num_col (v := v) (p := p) (c := 1) (y := 1) (by omega) rfl (by omega), q1, i64_i32]
      exact ⟨_, rfl, rfl, k, hk, by omega, by omega⟩
    | 3, _ =>
      have e1 : f_X1_partOf v (nI p) (nI 3) = Option.bind (f_X8_number (7 : Int32) 84 (v.2.1 0) (nI p) (2 : Int32)) some := rfl
      have e2 : f_X11_partOf w nm (nI p) (nI 3) = some (w (13 + p)) := by
        show (if nI 13 + nI p < 0 ∨ 960 ≤ (nI 13 + nI p).toNatClampNeg then none else some (w (nI 13 + nI p).toNatClampNeg)) = _
        rw [nI_add, gg (by omega) (by omega), nI_clamp (by omega)]
      obtain ⟨k, hk, _, hk2⟩ := i2
      rw [e1, e2, num_col (v := v) (p := p) (c := 2) (y := 2) (by omega) rfl (by omega), q2, i64_i32]
      exact ⟨_, rfl, rfl, k, hk, by omega, by omega⟩
    | 4, _ =>
      have e1 : f_X1_partOf v (nI p) (nI 4) = Option.bind (f_X8_number (7 : Int32) 84 (v.2.1 0) (nI p) (3 : Int32)) some := rfl
      have e2 : f_X11_partOf w nm (nI p) (nI 4) = some (w (25 + p)) := by
        show (if nI 25 + nI p < 0 ∨ 960 ≤ (nI 25 + nI p).toNatClampNeg then none else some (w (nI 25 + nI p).toNatClampNeg)) = _
        rw [nI_add, gg (by omega) (by omega), nI_clamp (by omega)]
      obtain ⟨k, hk, _, hk2⟩ := i3
      rw [e1, e2, num_col (v := v) (p := p) (c := 3) (y := 3) (by omega) rfl (by omega), q3, i64_i32]
      exact ⟨_, rfl, rfl, k, hk, by omega, by omega⟩
  obtain ⟨r, k1, k2, k3⟩ := key
  have e : ptv w nm p c = r := by unfold ptv; rw [k2]; rfl
  rw [e]
  exact ⟨k1, k2, k3⟩
def bI (b : Bool) : Int32 := if b then 1 else 0
def allF (f : Nat → Bool) : Nat → Nat → Bool | 0, _ => true | d + 1, k => f k && allF f d (k + 1)
def fitB (w : Nat → Int32) (nm : Nat → Int64) (p c : Nat) : Bool := decide (w (110 + c) = -1 ∨ w (110 + c) = ptv w nm p c)
theorem has_eq {v : HallV} {w : Nat → Int32} {c : Nat} (hc : c < 5) (hk : v.2.1 4 c = (w (110 + c)).toInt64) : f_X1_hasOf v (nI c) = some (w (110 + c)) := by
  unfold f_X1_hasOf
  simp only [num_at (wd := 5) (N := 5) (x := 0) (y := nI c) 0 c 5 rfl rfl rfl (by omega) (by decide), Nat.zero_mul, Nat.zero_add, hk, i64_i32, Option.bind_some]
theorem hasAll_L {v : HallV} {w : Nat → Int32} {nm : Nat → Int64} {p : Nat} (hp : PRel v w nm 0 0 p) (hp12 : p < 12) (hk : ∀ c, c < 5 → v.2.1 4 c = (w (110 + c)).toInt64) : ∀ d fu k b, d + k = 5 → d < fu → f_X4_hasAll_L4 v fu (nI p) (bI b) (nI k) = some (bI (b && allF (fitB w nm p) d k)) := by
  intro d
  induction d with
  | zero =>
    intro fu k b hd hf
    obtain ⟨fu, rfl⟩ : ∃ m, fu = m + 1 := ⟨fu - 1, by omega⟩
    have e : k = 5 := by omega
    subst e
    rw [f_X4_hasAll_L4, if_pos (by decide), allF]
    cases b <;> rfl
  | succ d ih =>
    intro fu k b hd hf
    obtain ⟨fu, rfl⟩ : ∃ m, fu = m + 1 := ⟨fu - 1, by omega⟩
    have n5 : ¬ (5 : Int32) ≤ nI k := nI_ge (a := k) (b := 5) (by omega) (by decide)
    have e1 := fun b => ih fu (k + 1) b (by omega) (by omega)
    have t1 : ∀ fu2, f_X4_hasAll_L4 v fu2 (nI p) (1 : Int32) = f_X4_hasAll_L4 v fu2 (nI p) (bI true) := fun _ => rfl
    have t0 : ∀ fu2, f_X4_hasAll_L4 v fu2 (nI p) (0 : Int32) = f_X4_hasAll_L4 v fu2 (nI p) (bI false) := fun _ => rfl
    rw [f_X4_hasAll_L4, if_neg n5, has_eq (by omega) (hk k (by omega)), Option.bind_some, allF]
    unfold f_X4_hasAll_B41 f_X4_hasAll_B37 f_X4_hasAll_B42
    cases b
    · rw [if_pos (by rfl), nI_1, t0, e1]; rfl
    · rw [if_neg (by decide), (part_eq hp hp12 (c := k) (by omega)).1, nI_1, t0, t1]
      simp only [Option.bind_some, e1, Bool.true_and, Bool.false_and]
      by_cases q1 : w (110 + k) = -1
      · rw [if_pos q1]
        have : fitB w nm p k = true := by unfold fitB; simp [q1]
        rw [this, Bool.true_and]
      · rw [if_neg q1]
        by_cases q2 : w (110 + k) = ptv w nm p k
        · rw [if_pos q2]
          have : fitB w nm p k = true := by unfold fitB; simp [q2]
          rw [this, Bool.true_and]
        · rw [if_neg q2]
          have : fitB w nm p k = false := by unfold fitB; simp [q1, q2]
          rw [this, Bool.false_and]
def fits (w : Nat → Int32) (nm : Nat → Int64) (p : Nat) : Bool := allF (fitB w nm p) 5 0
theorem hasAll_eq {v : HallV} {w : Nat → Int32} {nm : Nat → Int64} {p : Nat} (hp : PRel v w nm 0 0 p) (hp12 : p < 12) (hk : ∀ c, c < 5 → v.2.1 4 c = (w (110 + c)).toInt64) : f_X4_hasAll v (nI p) = some (bI (fits w nm p)) := by
  have := hasAll_L hp hp12 hk 5 FU 0 true (by omega) (FU1 (by omega))
  exact this
theorem whC {v : HallV} {w : Nat → Int32} {nm : Nat → Int64} {M : Nat} (hM : M ≤ 12) (a1 : v.1 0 = nI M) (hp : ∀ p, p < M → PRel v w nm 0 0 p) (hk : ∀ c, c < 5 → v.2.1 4 c = (w (110 + c)).toInt64) : ∀ d fu k, d + k = M → d < fu → f_X4_whoseBits_L4 v fu (nI (bits (fits w nm) k)) (nI k) = some (nI (bits (fits w nm) M)) := by
  intro d
  induction d with
  | zero =>
    intro fu k hd hf
    obtain ⟨fu, rfl⟩ : ∃ m, fu = m + 1 := ⟨fu - 1, by omega⟩
    have e : k = M := by omega
    subst e
    rw [f_X4_whoseBits_L4, f_X8_size, Option.bind_some, a1, if_pos (Int32.le_refl _)]
  | succ d ih =>
    intro fu k hd hf
    obtain ⟨fu, rfl⟩ : ∃ m, fu = m + 1 := ⟨fu - 1, by omega⟩
    rw [f_X4_whoseBits_L4, f_X8_size, Option.bind_some, a1, if_neg (nI_ge (a := k) (b := M) (by omega) (by omega)), hasAll_eq (hp k (by omega)) (by omega) hk, Option.bind_some]
    unfold f_X4_whoseBits_B29
    have e1 := ih fu (k + 1) (by omega) (by omega)
    rw [bits] at e1
    have hl := bits_lt (fits w nm) k
    have hl2 : 2 ^ k ≤ 2 ^ 12 := Nat.pow_le_pow_right (by decide) (by omega)
    rw [nI_1, shb k (by omega), nI_or (by omega) (by omega)]
    cases h : fits w nm k
    · rw [h] at e1
      rw [if_pos (by rfl)]
      exact e1
    · rw [h] at e1
      rw [if_neg (by decide)]
      exact e1
theorem whM1 {w : Nat → Int32} {nm : Nat → Int64} {p : Nat} {rL4 : Int32 → Int32 → Option Int32} {a : Nat} (hpt : ∀ c, c < 5 → f_X11_partOf w nm (nI p) (nI c) = some (ptv w nm p c)) : ∀ d fu k b, d + k = 5 → d < fu → f_X11_findWhose_L19 w nm rL4 fu (nI a) (nI p) (bI b) (nI k) = if (b && allF (fitB w nm p) d k) = true then rL4 (nI a ||| ((1 : Int32) <<< (nI p &&& (31 : Int32)))) (nI (p + 1)) else rL4 (nI a ||| 0) (nI (p + 1)) := by
  intro d
  induction d with
  | zero =>
    intro fu k b hd hf
    obtain ⟨fu, rfl⟩ : ∃ m, fu = m + 1 := ⟨fu - 1, by omega⟩
    have e : k = 5 := by omega
    subst e
    rw [f_X11_findWhose_L19, if_pos (by decide), allF]
    unfold f_X11_findWhose_B87
    rw [nI_1]
    cases b
    · rw [if_pos (by rfl), if_neg (by decide)]
    · rw [if_neg (by decide), if_pos (by rfl)]
  | succ d ih =>
    intro fu k b hd hf
    obtain ⟨fu, rfl⟩ : ∃ m, fu = m + 1 := ⟨fu - 1, by omega⟩
    have n5 : ¬ (5 : Int32) ≤ nI k := nI_ge (a := k) (b := 5) (by omega) (by decide)
    have e0 := ih fu (k + 1) false (by omega) (by omega)
    have e1 := ih fu (k + 1) true (by omega) (by omega)
    have e0 : f_X11_findWhose_L19 w nm rL4 fu (nI a) (nI p) (0 : Int32) (nI (k + 1)) = _ := e0
    have e1 : f_X11_findWhose_L19 w nm rL4 fu (nI a) (nI p) (1 : Int32) (nI (k + 1)) = _ := e1
    have m1 : (110 : Int32) + nI k = nI (110 + k) := nI_add 110 k
    rw [f_X11_findWhose_L19, if_neg n5, m1, hpt k (by omega), allF]
    unfold f_X11_findWhose_B67 f_X11_findWhose_B63 f_X11_findWhose_B68
    rw [nI_1, e0, e1, gg (by omega) (by omega), nI_clamp (by omega), gg' (by omega) (by omega), Option.bind_some]
    cases b
    · rw [if_pos (by rfl)]; rfl
    · rw [if_neg (by decide)]
      simp only [Bool.true_and, Bool.false_and]
      by_cases q1 : w (110 + k) = -1
      · rw [if_pos q1]
        have : fitB w nm p k = true := by unfold fitB; simp [q1]
        rw [this, Bool.true_and]
      · rw [if_neg q1]
        by_cases q2 : w (110 + k) = ptv w nm p k
        · rw [if_pos q2]
          have : fitB w nm p k = true := by unfold fitB; simp [q2]
          rw [this, Bool.true_and]
        · rw [if_neg q2]
          have : fitB w nm p k = false := by unfold fitB; simp [q1, q2]
          rw [this, Bool.false_and]
theorem whM {w : Nat → Int32} {nm : Nat → Int64} {M : Nat} (hM : M ≤ 12) (a2 : w 0 = nI M) (hpt : ∀ p, p < M → ∀ c, c < 5 → f_X11_partOf w nm (nI p) (nI c) = some (ptv w nm p c)) : ∀ d fu k, d + k = M → d < fu → f_X11_findWhose_L4 w nm fu (nI (bits (fits w nm) k)) (nI k) = some (nI (bits (fits w nm) M)) := by
  intro d
  induction d with
  | zero =>
    intro fu k hd hf
    obtain ⟨fu, rfl⟩ : ∃ m, fu = m + 1 := ⟨fu - 1, by omega⟩
    have e : k = M := by omega
    subst e
    rw [f_X11_findWhose_L4, if_neg k0.1, k0.2.1, a2, if_pos (Int32.le_refl _)]
  | succ d ih =>
    intro fu k hd hf
    obtain ⟨fu, rfl⟩ : ∃ m, fu = m + 1 := ⟨fu - 1, by omega⟩
    have e1 := ih fu (k + 1) (by omega) (by omega)
    have hl := bits_lt (fits w nm) k
    have hl2 : 2 ^ k ≤ 2 ^ 12 := Nat.pow_le_pow_right (by decide) (by omega)
    have L := whM1 (rL4 := f_X11_findWhose_L4 w nm fu) (a := bits (fits w nm) k) (hpt k (by omega)) 5 FU 0 true (by omega) (FU1 (by omega))
    have L : f_X11_findWhose_L19 w nm (f_X11_findWhose_L4 w nm fu) FU (nI (bits (fits w nm) k)) (nI k) (1 : Int32) (0 : Int32) = _ := L
    rw [f_X11_findWhose_L4, if_neg k0.1, k0.2.1, a2, if_neg (nI_ge (a := k) (b := M) (by omega) (by omega)), L, shb k (by omega), nI_or (by omega) (by omega), Bool.true_and, Int32.or_zero]
    rw [bits] at e1
    change (if fits w nm k = true then _ else _) = _
    cases h : fits w nm k
    · rw [h] at e1
      rw [if_neg (by decide)]
      exact e1
    · rw [h] at e1
      rw [if_pos rfl]
      exact e1
theorem whose_eq {v : HallV} {w : Nat → Int32} {nm : Nat → Int64} (h : HRel v w nm 0 0) : ∃ M W : Nat, M ≤ 12 ∧ v.1 0 = nI M ∧ w 0 = nI M ∧ W = bits (fits w nm) M ∧ W < 2 ^ M ∧ f_X4_whoseBits v = some (nI W) ∧ f_X11_findWhose w nm = some (nI W) := by
  obtain ⟨M, T, K, ⟨hM, hT, hK⟩, ⟨a1, a2⟩, ⟨b1, b2⟩, ⟨c1, c2⟩, hrows, hp, ht, hq, hs, hk, hd, hd2⟩ := id h
  have hk' : ∀ c, c < 5 → v.2.1 4 c = (w (110 + c)).toInt64 := fun c hc => by have := (hk c hc).1; rwa [Nat.zero_add] at this
  refine ⟨M, bits (fits w nm) M, hM, a1, a2, rfl, bits_lt _ _, ?_, ?_⟩
  · exact whC hM a1 hp hk' M FU 0 (by omega) (FU1 (by omega))
  · exact whM hM a2 (fun p hpM c hc => (part_eq (hp p hpM) (by omega) hc).2.1) M FU 0 (by omega) (FU1 (by omega))
theorem r_whose {keptImages : Int32} {fab : Int64} {fbe : Int64} {bads : Int32} {noes : Int32} {fulls : Int32} {now : HallV} {bl : Int32} {kp : Int32} {ring : Nat → HallV} {imgs : Nat → HallV} {tlen : Int32} {tby : Nat → Int32} {draft : HallV} {rall : Nat → Int32} {nmost : Nat → Int32} {mw : Nat → Int32} {mnames : Nat → Int64} {mkept : Nat → Int32} {mtext : Nat → Int32} {mtexted : Int32} {mundo : Int32} {mabove : Int64} {mbelow : Int64} {mrefused : Nat → Int32} (hR : Rel now bl kp ring imgs tlen tby draft rall nmost keptImages fab fbe bads noes fulls mw mnames mkept mtext mtexted mundo mabove mbelow mrefused)  : ∃ (q : Int32) (q' : Int32), f_X10_whose now = some q ∧ f_X11_whose mw mnames = some q' ∧ q = q' ∧ Rel now bl kp ring imgs tlen tby draft rall nmost keptImages fab fbe bads noes fulls mw mnames mkept mtext mtexted mundo mabove mbelow mrefused := by
  obtain ⟨M, W, _, _, _, _, _, e1, e2⟩ := whose_eq hR.1
  refine ⟨nI W, nI W, ?_, ?_, rfl, hR⟩
  · unfold f_X10_whose
    rw [e1]; rfl
  · unfold f_X11_whose
    rw [e2]; rfl
