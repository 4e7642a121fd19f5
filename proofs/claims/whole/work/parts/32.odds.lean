/-! PURE 10: sums, shares, what is left -/
theorem e0 {b : Nat} (h : b < 2 ^ 63) : lg_cmp (lN b) (0 : Int64) = 0 ↔ b = 0 := by
  rw [lg_cmp_eq, show (0 : Int64) = lN 0 from rfl, pk_lEQ h (by decide)]
theorem z0 {b : Nat} (h : b < 2 ^ 63) : lN b = 0 ↔ b = 0 := by
  rw [show (0 : Int64) = lN 0 from rfl, pk_lEQ h (by decide)]
theorem lrm_n {a b : Nat} (ha : a < 2 ^ 63) (hb : b < 2 ^ 63) (h0 : 0 < b) : lrm (lN a) (lN b) = lN (a % b) := pk_lRem ha h0 hb
theorem half {b r : Nat} (h0 : 0 < r) (h : r < b) : 2 * (b % r) < b := by
  have h1 := Nat.mod_lt b h0
  have h2 := Nat.div_add_mod b r
  have h3 : 1 ≤ b / r := (Nat.one_le_div_iff h0).mpr (Nat.le_of_lt h)
  have h4 : r * 1 ≤ r * (b / r) := Nat.mul_le_mul_left r h3
  omega
theorem cd_L : ∀ k a b fu t, a < 2 ^ 63 → b < 2 ^ 63 → b < 2 ^ k → t + 2 * k ≤ 200 → 2 * k + 1 ≤ fu → f_X10_commonDivisor_L3 fu (lN a) (lN b) (nI t) = some (lN (Nat.gcd a b)) := by
  intro k
  induction k with
  | zero =>
    intro a b fu t ha hb hk ht hf
    obtain ⟨fu, rfl⟩ : ∃ m, fu = m + 1 := ⟨fu - 1, by omega⟩
    have e : b = 0 := by simp at hk; omega
    subst e
    rw [f_X10_commonDivisor_L3, if_pos ((e0 hb).mpr rfl), ite_self, Nat.gcd_zero_right]
  | succ k ih =>
    intro a b fu t ha hb hk ht hf
    obtain ⟨fu, rfl⟩ : ∃ m, fu = m + 1 + 1 := ⟨fu - 2, by omega⟩
    by_cases z : b = 0
    · subst z
      rw [f_X10_commonDivisor_L3, if_pos ((e0 hb).mpr rfl), ite_self, Nat.gcd_zero_right]
    · have b0 : 0 < b := Nat.pos_of_ne_zero z
      have hr := Nat.mod_lt a b0
      have n1 : ¬ (200 : Int32) ≤ nI t := nI_ge (a := t) (b := 200) (by omega) (by decide)
      have n2 : ¬ (200 : Int32) ≤ nI (t + 1) := nI_ge (a := t + 1) (b := 200) (by omega) (by decide)
      rw [f_X10_commonDivisor_L3, if_neg n1, if_neg (fun q => z ((e0 hb).mp q)), if_neg (fun q => z ((z0 hb).mp q)), lrm_n ha hb b0, nI_1]
      by_cases y : a % b = 0
      · rw [f_X10_commonDivisor_L3, if_neg n2, y, if_pos ((e0 (by decide)).mpr rfl), Nat.gcd_comm, Nat.gcd_rec, y, Nat.gcd_zero_left]
      · have r0 : 0 < a % b := Nat.pos_of_ne_zero y
        rw [f_X10_commonDivisor_L3, if_neg n2, if_neg (fun q => y ((e0 (by omega)).mp q)), if_neg (fun q => y ((z0 (by omega)).mp q)), lrm_n hb (by omega) r0, nI_1]
        have hh := half r0 hr
        rw [ih (a % b) (b % (a % b)) fu (t + 1 + 1) (by omega) (by omega) (by rw [Nat.pow_succ] at hk; omega) (by omega) (by omega)]
        congr 2
        rw [Nat.gcd_comm a b, Nat.gcd_rec b a, Nat.gcd_rec (a % b) b]
        exact Nat.gcd_comm _ _
theorem sh_L {ma mb x1 x3 : Int64} : ∀ k a b fu, a < 2 ^ 63 → b < 2 ^ 63 → b < 2 ^ k → 0 < Nat.gcd a b → 2 * k + 1 ≤ fu → f_X11_share_L6 fu ma mb x1 x3 (lN a) (lN b) = some ((1 : Int32), x1 / lN (Nat.gcd a b), x3 / lN (Nat.gcd a b)) := by
  intro k
  induction k with
  | zero =>
    intro a b fu ha hb hk hg hf
    obtain ⟨fu, rfl⟩ : ∃ m, fu = m + 1 := ⟨fu - 1, by omega⟩
    have e : b = 0 := by simp at hk; omega
    subst e
    rw [Nat.gcd_zero_right] at hg ⊢
    have na : ¬ lN a = 0 := fun q => by have := (z0 ha).mp q; omega
    rw [f_X11_share_L6, if_pos ((e0 hb).mpr rfl), if_neg na, if_neg na]
  | succ k ih =>
    intro a b fu ha hb hk hg hf
    obtain ⟨fu, rfl⟩ : ∃ m, fu = m + 1 + 1 := ⟨fu - 2, by omega⟩
    by_cases z : b = 0
    · subst z
      rw [Nat.gcd_zero_right] at hg ⊢
      have na : ¬ lN a = 0 := fun q => by have := (z0 ha).mp q; omega
      rw [f_X11_share_L6, if_pos ((e0 hb).mpr rfl), if_neg na, if_neg na]
    · have b0 : 0 < b := Nat.pos_of_ne_zero z
      have hr := Nat.mod_lt a b0
      rw [f_X11_share_L6, if_neg (fun q => z ((e0 hb).mp q)), if_neg (fun q => z ((z0 hb).mp q)), lrm_n ha hb b0]
      by_cases y : a % b = 0
      · have eg : Nat.gcd a b = b := by rw [Nat.gcd_comm, Nat.gcd_rec, y, Nat.gcd_zero_left]
        rw [f_X11_share_L6, y, if_pos ((e0 (by decide)).mpr rfl), if_neg (fun q => z ((z0 hb).mp q)), if_neg (fun q => z ((z0 hb).mp q)), eg]
      · have r0 : 0 < a % b := Nat.pos_of_ne_zero y
        have eg : Nat.gcd a b = Nat.gcd (a % b) (b % (a % b)) := by
          rw [Nat.gcd_comm a b, Nat.gcd_rec b a, Nat.gcd_rec (a % b) b]
          exact Nat.gcd_comm _ _
        rw [f_X11_share_L6, if_neg (fun q => y ((e0 (by omega)).mp q)), if_neg (fun q => y ((z0 (by omega)).mp q)), lrm_n hb (by omega) r0]
        have hh := half r0 hr
        rw [eg] at hg ⊢
        rw [ih (a % b) (b % (a % b)) fu (by omega) (by omega) (by rw [Nat.pow_succ] at hk; omega) hg (by omega)]
theorem frac_eq (fab fbe ma mb : Int64) (a b : Nat) (ha : a < 2 ^ 63) (hb : b < 2 ^ 63) (h0 : 0 < b) : ∃ f1 f2 : Int64, f_X10_setFraction fab fbe (lN a) (lN b) = some (f1, f2) ∧ f_X11_share ma mb (lN a) (lN b) = some ((1 : Int32), f1, f2) := by
  have hg : 0 < Nat.gcd a b := Nat.gcd_pos_of_pos_right a h0
  have hgl : Nat.gcd a b < 2 ^ 63 := Nat.lt_of_le_of_lt (Nat.gcd_le_right a h0) hb
  refine ⟨lN a / lN (Nat.gcd a b), lN b / lN (Nat.gcd a b), ?_, ?_⟩
  · unfold f_X10_setFraction f_X10_commonDivisor
    have e := cd_L 63 a b FU 0 ha hb hb (by omega) (by unfold FU; omega)
    have e : f_X10_commonDivisor_L3 FU (lN a) (lN b) (0 : Int32) = _ := e
    rw [e, Option.bind_some, if_neg (fun q => by have := (l0 hgl).mp q; omega), if_neg (fun q => by have := (z0 hgl).mp q; omega), if_neg (fun q => by have := (z0 hgl).mp q; omega)]
  · unfold f_X11_share
    exact sh_L 63 a b FU ha hb hb hg (by unfold FU; omega)
def sumN (f : Nat → Nat) : Nat → Nat | 0 => 0 | n + 1 => sumN f n + f n
theorem sumN_le (f : Nat → Nat) (c : Nat) : ∀ n, (∀ i, i < n → f i ≤ c) → sumN f n ≤ n * c := by
  intro n
  induction n with
  | zero => intro _; exact Nat.zero_le _
  | succ n ih =>
    intro h
    have h1 := ih (fun i hi => h i (by omega))
    have h2 := h n (by omega)
    rw [sumN, Nat.succ_mul]; omega
theorem sumN_c {f g : Nat → Nat} : ∀ n, (∀ i, i < n → f i = g i) → sumN f n = sumN g n := by
  intro n
  induction n with
  | zero => intro _; rfl
  | succ n ih => intro h; rw [sumN, sumN, ih (fun i hi => h i (by omega)), h n (by omega)]
theorem sumN_ext {f : Nat → Nat} {M : Nat} : ∀ n, M ≤ n → (∀ i, M ≤ i → f i = 0) → sumN f n = sumN f M := by
  intro n
  induction n with
  | zero => intro h _; have : M = 0 := by omega
            subst this; rfl
  | succ n ih =>
    intro h hz
    by_cases q : M = n + 1
    · rw [q]
    · rw [sumN, ih (by omega) hz, hz n (by omega)]; rfl
theorem sumN_one (c a : Nat) : ∀ n, sumN (fun v => if a = v then c else 0) n = if a < n then c else 0 := by
  intro n
  induction n with
  | zero => rfl
  | succ n ih =>
    rw [sumN, ih]
    by_cases q : a < n
    · rw [if_pos q, if_neg (by omega), if_pos (by omega), Nat.add_zero]
    · by_cases q2 : a = n
      · rw [if_neg q, if_pos q2, if_pos (by omega), Nat.zero_add]
      · rw [if_neg q, if_neg q2, if_neg (by omega)]
theorem sumN_mulone (T : Nat → Nat) (c a : Nat) (n : Nat) (h : a < n) : sumN (fun v => T v * (if a = v then c else 0)) n = T a * c := by
  have : sumN (fun v => T v * (if a = v then c else 0)) n = sumN (fun v => if a = v then T a * c else 0) n := sumN_c n (fun i _ => by by_cases q : a = i <;> simp [q])
  rw [this, sumN_one, if_pos h]
theorem sumN_add (f g : Nat → Nat) : ∀ n, sumN (fun i => f i + g i) n = sumN f n + sumN g n := by
  intro n
  induction n with
  | zero => rfl
  | succ n ih => rw [sumN, sumN, sumN, ih]; omega
/-- the sum by people is the sum of the squares by values -/
theorem squares (T : Nat → Nat) (S : Nat → Bool) (g pt : Nat → Nat) (V : Nat) : ∀ n, (∀ p, p < n → pt p < V) → sumN (fun p => if S p then T (pt p) * g p else 0) n = sumN (fun v => T v * sumN (fun q => if S q && decide (pt q = v) then g q else 0) n) V := by
  intro n
  induction n with
  | zero =>
    intro _
    have : ∀ m, sumN (fun v => T v * 0) m = 0 := by intro m; induction m with | zero => rfl | succ m ih => rw [sumN, ih]; simp
    exact (this V).symm
  | succ n ih =>
    intro h
    have e : sumN (fun v => T v * sumN (fun q => if S q && decide (pt q = v) then g q else 0) (n + 1)) V = sumN (fun v => T v * sumN (fun q => if S q && decide (pt q = v) then g q else 0) n) V + sumN (fun v => T v * (if S n && decide (pt n = v) then g n else 0)) V := by
      rw [← sumN_add]
      exact sumN_c V (fun i _ => by rw [sumN, Nat.mul_add])
    rw [e, ← ih (fun p hp => h p (by omega)), sumN]
    congr 1
    cases hs : S n
    · have : ∀ m, sumN (fun v => T v * (if false && decide (pt n = v) then g n else 0)) m = 0 := by intro m; induction m with | zero => rfl | succ m ih => rw [sumN, ih]; simp
      rw [this]; rfl
    · have := sumN_mulone T (g n) (pt n) V (h n (by omega))
      simp only [Bool.true_and, decide_eq_true_eq, if_true]
      exact this.symm
/-- what the searches read of PEOPLE -/
def gN (w : Nat → Int32) (p : Nat) : Nat := (w (49 + p)).toNatClampNeg
def pN (w : Nat → Int32) (nm : Nat → Int64) (p c : Nat) : Nat := (ptv w nm p c).toNatClampNeg
abbrev Ppl (v : HallV) (w : Nat → Int32) (nm : Nat → Int64) (M : Nat) : Prop :=
  (M ≤ 12) ∧
  (v.1 0 = nI M) ∧
  (w 0 = nI M) ∧
  (∀ p, p < M → ∀ c, c < 5 → f_X1_partOf v (nI p) (nI c) = some (nI (pN w nm p c))) ∧
  (∀ p, p < M → ∀ c, c < 5 → f_X11_partOf w nm (nI p) (nI c) = some (nI (pN w nm p c))) ∧
  (∀ p, p < M → ∀ c, c < 5 → pN w nm p c < 26) ∧
  (∀ p, p < M → f_X8_number (7 : Int32) 84 (v.2.1 0) (nI p) (5 : Int32) = some (nI (gN w p))) ∧
  (∀ p, p < M → w (49 + p) = nI (gN w p)) ∧
  (∀ p, p < M → 1 ≤ gN w p ∧ gN w p ≤ 9) ∧
  (∀ c, c < 5 → f_X1_hasOf v (nI c) = some (w (110 + c)))
theorem Ppl.m12 {v : HallV} {w : Nat → Int32} {nm : Nat → Int64} {M : Nat} (h : Ppl v w nm M) : M ≤ 12 := h.1
theorem Ppl.a1 {v : HallV} {w : Nat → Int32} {nm : Nat → Int64} {M : Nat} (h : Ppl v w nm M) : v.1 0 = nI M := h.2.1
theorem Ppl.a2 {v : HallV} {w : Nat → Int32} {nm : Nat → Int64} {M : Nat} (h : Ppl v w nm M) : w 0 = nI M := h.2.2.1
theorem Ppl.pc {v : HallV} {w : Nat → Int32} {nm : Nat → Int64} {M : Nat} (h : Ppl v w nm M) : ∀ p, p < M → ∀ c, c < 5 → f_X1_partOf v (nI p) (nI c) = some (nI (pN w nm p c)) := h.2.2.2.1
theorem Ppl.pm {v : HallV} {w : Nat → Int32} {nm : Nat → Int64} {M : Nat} (h : Ppl v w nm M) : ∀ p, p < M → ∀ c, c < 5 → f_X11_partOf w nm (nI p) (nI c) = some (nI (pN w nm p c)) := h.2.2.2.2.1
theorem Ppl.pb {v : HallV} {w : Nat → Int32} {nm : Nat → Int64} {M : Nat} (h : Ppl v w nm M) : ∀ p, p < M → ∀ c, c < 5 → pN w nm p c < 26 := h.2.2.2.2.2.1
theorem Ppl.gc {v : HallV} {w : Nat → Int32} {nm : Nat → Int64} {M : Nat} (h : Ppl v w nm M) : ∀ p, p < M → f_X8_number (7 : Int32) 84 (v.2.1 0) (nI p) (5 : Int32) = some (nI (gN w p)) := h.2.2.2.2.2.2.1
theorem Ppl.gm {v : HallV} {w : Nat → Int32} {nm : Nat → Int64} {M : Nat} (h : Ppl v w nm M) : ∀ p, p < M → w (49 + p) = nI (gN w p) := h.2.2.2.2.2.2.2.1
theorem Ppl.gb {v : HallV} {w : Nat → Int32} {nm : Nat → Int64} {M : Nat} (h : Ppl v w nm M) : ∀ p, p < M → 1 ≤ gN w p ∧ gN w p ≤ 9 := h.2.2.2.2.2.2.2.2.1
theorem Ppl.hk {v : HallV} {w : Nat → Int32} {nm : Nat → Int64} {M : Nat} (h : Ppl v w nm M) : ∀ c, c < 5 → f_X1_hasOf v (nI c) = some (w (110 + c)) := h.2.2.2.2.2.2.2.2.2
theorem HRel.ppl {v : HallV} {w : Nat → Int32} {nm : Nat → Int64} (h : HRel v w nm 0 0) : ∃ M W : Nat, Ppl v w nm M ∧ W < 2 ^ M ∧ f_X4_whoseBits v = some (nI W) ∧ f_X11_findWhose w nm = some (nI W) := by
  obtain ⟨M, W, hM, a1, a2, _, hW, e1, e2⟩ := whose_eq h
  obtain ⟨M', T, K, ⟨hM', hT, hK⟩, ⟨a1', a2'⟩, ⟨b1, b2⟩, ⟨c1, c2⟩, hrows, hp, ht, hq, hs, hk, hd, hd2⟩ := id h
  have e : M' = M := (nI_eq (by omega) (by omega)).mp (a1'.symm.trans a1)
  subst e
  have hg : ∀ p, p < M' → v.2.1 0 (p * 7 + 5) = (w (49 + p)).toInt64 ∧ inN (w (49 + p)) 1 9 := fun p hpM => by
    have := hp p hpM
    unfold PRel at this
    simp only [Nat.zero_add] at this
    exact this.2.2.2.2.2.2.1
  have hpt : ∀ p, p < M' → ∀ c, c < 5 → ptv w nm p c = nI (pN w nm p c) ∧ pN w nm p c < 26 := fun p hpM c hc => by
    obtain ⟨_, _, k, hk1, _, hk2⟩ := part_eq (hp p hpM) (by omega) hc
    have : pN w nm p c = k := by unfold pN; rw [hk1, nI_clamp (by omega)]
    rw [this]; exact ⟨hk1, by omega⟩
  have hgn : ∀ p, p < M' → w (49 + p) = nI (gN w p) ∧ 1 ≤ gN w p ∧ gN w p ≤ 9 := fun p hpM => by
    obtain ⟨k, hk1, h1, hk2⟩ := (hg p hpM).2
    have : gN w p = k := by unfold gN; rw [hk1, nI_clamp (by omega)]
    rw [this]; exact ⟨hk1, h1, hk2⟩
  refine ⟨M', W, ⟨hM', a1, a2, ?_, ?_, ?_, ?_, ?_, ?_, ?_⟩, hW, e1, e2⟩
  · intro p hpM c hc
    rw [(part_eq (hp p hpM) (by omega) hc).1, (hpt p hpM c hc).1]
  · intro p hpM c hc
    rw [(part_eq (hp p hpM) (by omega) hc).2.1, (hpt p hpM c hc).1]
  · intro p hpM c hc
    exact (hpt p hpM c hc).2
  · intro p hpM
    rw [num_col (v := v) (p := p) (c := 5) (y := 5) (by omega) rfl (by omega), (hg p hpM).1, i64_i32, (hgn p hpM).1]
  · intro p hpM
    exact (hgn p hpM).1
  · intro p hpM
    exact (hgn p hpM).2
  · intro c hc
    have := (hk c hc).1
    rw [Nat.zero_add] at this
    exact has_eq hc this
theorem tbM {W M p : Nat} (hW : W < 2 ^ M) (h : W.testBit p = true) : p < M := by
  by_cases q : p < M
  · exact q
  · have : W.testBit p = false := Nat.testBit_lt_two_pow (Nat.lt_of_lt_of_le hW (Nat.pow_le_pow_right (by decide) (by omega)))
    rw [this] at h; exact absurd h (by decide)
theorem p12 {W M : Nat} (hM : M ≤ 12) (hW : W < 2 ^ M) : W < 2 ^ 31 := Nat.lt_of_lt_of_le hW (Nat.pow_le_pow_right (by decide) (by omega))
theorem ite01 {b : Bool} : ((if b then (1 : Int32) else 0) = 0) = ¬ b = true := i01
def seenF (w : Nat → Int32) (A : Nat) : Nat → Nat := fun q => if A.testBit q then gN w q else 0
theorem seen_L {v : HallV} {w : Nat → Int32} {nm : Nat → Int64} {M A : Nat} (P : Ppl v w nm M) (hA : A < 2 ^ M) : ∀ d fu k, d + k = 12 → d < fu → f_X4_seenOf_L4 v fu (nI A) (nI (sumN (seenF w A) k)) (nI k) = some (nI (sumN (seenF w A) 12)) := by
  intro d
  induction d with
  | zero =>
    intro fu k hd hf
    obtain ⟨fu, rfl⟩ : ∃ m, fu = m + 1 := ⟨fu - 1, by omega⟩
    have e : k = 12 := by omega
    subst e
    rw [f_X4_seenOf_L4, if_pos (by decide)]
  | succ d ih =>
    intro fu k hd hf
    obtain ⟨fu, rfl⟩ : ∃ m, fu = m + 1 := ⟨fu - 1, by omega⟩
    have e1 := ih fu (k + 1) (by omega) (by omega)
    rw [sumN] at e1
    have n12 : ¬ (12 : Int32) ≤ nI k := nI_ge (a := k) (b := 12) (by omega) (by decide)
    rw [f_X4_seenOf_L4, if_neg n12, (isIn_eq (p12 P.m12 hA) (by omega)).1, Option.bind_some]
    simp only [ite01]
    unfold f_X4_seenOf_B30
    rw [nI_1]
    by_cases h : A.testBit k = true
    · rw [if_neg (fun z => z h), P.gc k (tbM hA h), Option.bind_some, nI_add]
      unfold seenF at e1 ⊢
      rw [if_pos h] at e1
      exact e1
    · rw [if_pos h]
      unfold seenF at e1 ⊢
      rw [if_neg h] at e1
      exact e1
theorem seen_eq {v : HallV} {w : Nat → Int32} {nm : Nat → Int64} {M A : Nat} (P : Ppl v w nm M) (hA : A < 2 ^ M) : f_X4_seenOf v (nI A) = some (nI (sumN (seenF w A) M)) := by
  have := seen_L P hA 12 FU 0 (by omega) (FU1 (by omega))
  rw [sumN_ext (f := seenF w A) (M := M) 12 P.m12 (fun i hi => by unfold seenF; rw [if_neg (fun h => by have := tbM hA h; omega)])] at this
  exact this
theorem alike_L {v : HallV} {w : Nat → Int32} {nm : Nat → Int64} {M A p c : Nat} (P : Ppl v w nm M) (hA : A < 2 ^ M) (hp : p < M) (hc : c < 5) : ∀ d fu k, d + k = 12 → d < fu → f_X4_alikeIn_L6 v fu (nI A) (nI p) (nI c) (nI (bits (fun q => A.testBit q && decide (pN w nm q c = pN w nm p c)) k)) (nI k) = some (nI (bits (fun q => A.testBit q && decide (pN w nm q c = pN w nm p c)) 12)) := by
  intro d
  induction d with
  | zero =>
    intro fu k hd hf
    obtain ⟨fu, rfl⟩ : ∃ m, fu = m + 1 := ⟨fu - 1, by omega⟩
    have e : k = 12 := by omega
    subst e
    rw [f_X4_alikeIn_L6, if_pos (by decide)]
  | succ d ih =>
    intro fu k hd hf
    obtain ⟨fu, rfl⟩ : ∃ m, fu = m + 1 := ⟨fu - 1, by omega⟩
    have e1 := ih fu (k + 1) (by omega) (by omega)
    rw [bits] at e1
    have n12 : ¬ (12 : Int32) ≤ nI k := nI_ge (a := k) (b := 12) (by omega) (by decide)
    have hl := bits_lt (fun q => A.testBit q && decide (pN w nm q c = pN w nm p c)) k
    have hl2 : 2 ^ k ≤ 2 ^ 12 := Nat.pow_le_pow_right (by decide) (by omega)
    rw [f_X4_alikeIn_L6, if_neg n12, (isIn_eq (p12 P.m12 hA) (by omega)).1, Option.bind_some]
    simp only [ite01]
    unfold f_X4_alikeIn_B47
    rw [nI_1, shb k (by omega), nI_or (by omega) (by omega)]
    by_cases h : A.testBit k = true
    · have kM := tbM hA h
      rw [if_neg (fun z => z h), P.pc k kM c hc, P.pc p hp c hc, Option.bind_some, Option.bind_some]
      have b1 := P.pb k kM c hc
      have b2 := P.pb p hp c hc
      by_cases q : pN w nm k c = pN w nm p c
      · rw [if_pos (by rw [q])]
        rw [if_pos (by simp [h, q])] at e1
        exact e1
      · rw [if_neg (fun z => q ((nI_eq (by omega) (by omega)).mp z))]
        rw [if_neg (by simp [q])] at e1
        exact e1
    · rw [if_pos h]
      rw [if_neg (by simp [h])] at e1
      exact e1
theorem Tsum {w : Nat → Int32} {nm : Nat → Int64} {A c M : Nat} (hA : A < 2 ^ M) (hM : M ≤ 12) (pv : Nat) : sumN (seenF w (bits (fun q => A.testBit q && decide (pN w nm q c = pv)) 12)) M = sumN (fun q => if A.testBit q && decide (pN w nm q c = pv) then gN w q else 0) M := by
  refine sumN_c M (fun i hi => ?_)
  unfold seenF
  rw [bits_tb]
  have : decide (i < 12) = true := by simp; omega
  rw [this, Bool.true_and]
theorem sub_lt {S : Nat → Bool} {A M : Nat} (hA : A < 2 ^ M) (hS : ∀ q, S q = true → A.testBit q = true) (n : Nat) : bits S n < 2 ^ M := by
  apply Nat.lt_pow_two_of_testBit
  intro i hi
  rw [bits_tb]
  cases h : S i
  · simp
  · have := tbM hA (hS i h); omega
theorem mean_L {v : HallV} {w : Nat → Int32} {nm : Nat → Int64} {M A c : Nat} (P : Ppl v w nm M) (hA : A < 2 ^ M) (hc : c < 5) : ∀ d fu k, d + k = 12 → d < fu → f_X4_leftInMean_L5 v fu (nI A) (nI c) (nI (sumN (fun p => if A.testBit p then sumN (fun q => if A.testBit q && decide (pN w nm q c = pN w nm p c) then gN w q else 0) M * gN w p else 0) k)) (nI k) = some (nI (sumN (fun p => if A.testBit p then sumN (fun q => if A.testBit q && decide (pN w nm q c = pN w nm p c) then gN w q else 0) M * gN w p else 0) 12)) := by
  intro d
  induction d with
  | zero =>
    intro fu k hd hf
    obtain ⟨fu, rfl⟩ : ∃ m, fu = m + 1 := ⟨fu - 1, by omega⟩
    have e : k = 12 := by omega
    subst e
    rw [f_X4_leftInMean_L5, if_pos (by decide)]
  | succ d ih =>
    intro fu k hd hf
    obtain ⟨fu, rfl⟩ : ∃ m, fu = m + 1 := ⟨fu - 1, by omega⟩
    have e1 := ih fu (k + 1) (by omega) (by omega)
    rw [sumN] at e1
    have n12 : ¬ (12 : Int32) ≤ nI k := nI_ge (a := k) (b := 12) (by omega) (by decide)
    rw [f_X4_leftInMean_L5, if_neg n12, (isIn_eq (p12 P.m12 hA) (by omega)).1, Option.bind_some]
    simp only [ite01]
    unfold f_X4_leftInMean_B51
    rw [nI_1]
    by_cases h : A.testBit k = true
    · have kM := tbM hA h
      have al := alike_L P hA kM hc 12 FU 0 (by omega) (FU1 (by omega))
      have al : f_X4_alikeIn v (nI A) (nI k) (nI c) = _ := al
      have sl := sub_lt (S := fun q => A.testBit q && decide (pN w nm q c = pN w nm k c)) hA (fun q hq => by simp at hq; exact hq.1) 12
      rw [if_neg (fun z => z h), al, Option.bind_some, seen_eq P sl, Option.bind_some, P.gc k kM, Option.bind_some, nI_mul, nI_add, Tsum hA P.m12]
      rw [if_pos h] at e1
      exact e1
    · rw [if_pos h]
      rw [if_neg h] at e1
      exact e1
theorem mean_eq {v : HallV} {w : Nat → Int32} {nm : Nat → Int64} {M A c : Nat} (P : Ppl v w nm M) (hA : A < 2 ^ M) (hc : c < 5) : f_X4_leftInMean v (nI A) (nI c) = some (nI (sumN (fun v => sumN (fun q => if A.testBit q && decide (pN w nm q c = v) then gN w q else 0) M * sumN (fun q => if A.testBit q && decide (pN w nm q c = v) then gN w q else 0) M) 26)) := by
  have := mean_L P hA hc 12 FU 0 (by omega) (FU1 (by omega))
  rw [sumN_ext (M := M) 12 P.m12 (fun i hi => if_neg (fun h => by have := tbM hA h; omega))] at this
  rw [squares (fun v => sumN (fun q => if A.testBit q && decide (pN w nm q c = v) then gN w q else 0) M) (fun p => A.testBit p) (gN w) (fun p => pN w nm p c) 26 M (fun p hp => P.pb p hp c hc)] at this
  exact this
theorem lv_in {v : HallV} {w : Nat → Int32} {nm : Nat → Int64} {M A c : Nat} {r : Int32 → Int32 → Int32 → Int32 → Option Int32} {a y : Nat} (P : Ppl v w nm M) (hA : A < 2 ^ M) (hc : c < 5) (hy : y < 26) : ∀ d fu k, d + k = M → d < fu → f_X11_leaves_L18 w nm r fu (nI A) (nI c) (nI a) (nI y) (nI (sumN (fun q => if A.testBit q && decide (pN w nm q c = y) then gN w q else 0) k)) (nI k) = r (nI A) (nI c) (nI (a + sumN (fun q => if A.testBit q && decide (pN w nm q c = y) then gN w q else 0) M * sumN (fun q => if A.testBit q && decide (pN w nm q c = y) then gN w q else 0) M)) (nI (y + 1)) := by
  intro d
  induction d with
  | zero =>
    intro fu k hd hf
    obtain ⟨fu, rfl⟩ : ∃ m, fu = m + 1 := ⟨fu - 1, by omega⟩
    have e : k = M := by omega
    subst e
    rw [f_X11_leaves_L18, if_neg k0.1, k0.2.1, P.a2, if_pos (Int32.le_refl _), nI_mul, nI_add, nI_1]
  | succ d ih =>
    intro fu k hd hf
    obtain ⟨fu, rfl⟩ : ∃ m, fu = m + 1 := ⟨fu - 1, by omega⟩
    have hM := P.m12
    have e1 := ih fu (k + 1) (by omega) (by omega)
    rw [sumN] at e1
    have m1 : (49 : Int32) + nI k = nI (49 + k) := nI_add 49 k
    have b1 := P.pb k (by omega) c hc
    rw [f_X11_leaves_L18, if_neg k0.1, k0.2.1, P.a2, if_neg (nI_ge (a := k) (b := M) (by omega) (by omega)), (isIn_eq (p12 P.m12 hA) (by omega)).2, Option.bind_some, P.pm k (by omega) c hc, Option.bind_some, m1, gg (by omega) (by omega), nI_clamp (by omega), P.gm k (by omega)]
    simp only [ite01]
    unfold f_X11_leaves_B65 f_X11_leaves_B66
    rw [nI_1, nI_add, Int32.add_zero]
    by_cases h : A.testBit k = true
    · rw [if_neg (fun z => z h)]
      by_cases q : pN w nm k c = y
      · rw [if_pos (by rw [q])]
        rw [if_pos (by simp [h, q])] at e1
        exact e1
      · rw [if_neg (fun z => q ((nI_eq (by omega) (by omega)).mp z))]
        rw [if_neg (by simp [q])] at e1
        exact e1
    · rw [if_pos h]
      rw [if_neg (by simp [h])] at e1
      exact e1
theorem lv_eq {v : HallV} {w : Nat → Int32} {nm : Nat → Int64} {M A c : Nat} (P : Ppl v w nm M) (hA : A < 2 ^ M) (hc : c < 5) : f_X11_leaves w nm (nI A) (nI c) = some (nI (sumN (fun v => sumN (fun q => if A.testBit q && decide (pN w nm q c = v) then gN w q else 0) M * sumN (fun q => if A.testBit q && decide (pN w nm q c = v) then gN w q else 0) M) 26)) := by
  have key : ∀ d fu k, d + k = 26 → d < fu → f_X11_leaves_L5 w nm fu (nI A) (nI c) (nI (sumN (fun v => sumN (fun q => if A.testBit q && decide (pN w nm q c = v) then gN w q else 0) M * sumN (fun q => if A.testBit q && decide (pN w nm q c = v) then gN w q else 0) M) k)) (nI k) = some (nI (sumN (fun v => sumN (fun q => if A.testBit q && decide (pN w nm q c = v) then gN w q else 0) M * sumN (fun q => if A.testBit q && decide (pN w nm q c = v) then gN w q else 0) M) 26)) := by
    intro d
    induction d with
    | zero =>
      intro fu k hd hf
      obtain ⟨fu, rfl⟩ : ∃ m, fu = m + 1 := ⟨fu - 1, by omega⟩
      have e : k = 26 := by omega
      subst e
      rw [f_X11_leaves_L5, if_pos (by decide)]
    | succ d ih =>
      intro fu k hd hf
      obtain ⟨fu, rfl⟩ : ∃ m, fu = m + 1 := ⟨fu - 1, by omega⟩
      have hM := P.m12
      have e1 := ih fu (k + 1) (by omega) (by omega)
      rw [sumN] at e1
      have n26 : ¬ (26 : Int32) ≤ nI k := nI_ge (a := k) (b := 26) (by omega) (by decide)
      have L := lv_in (r := f_X11_leaves_L5 w nm fu) (a := sumN (fun v => sumN (fun q => if A.testBit q && decide (pN w nm q c = v) then gN w q else 0) M * sumN (fun q => if A.testBit q && decide (pN w nm q c = v) then gN w q else 0) M) k) P hA hc (y := k) (by omega) M FU 0 (by omega) (FU1 (by omega))
      rw [f_X11_leaves_L5, if_neg n26]
      exact L.trans e1
  exact key 26 FU 0 (by omega) (FU1 (by omega))
def lvN (w : Nat → Int32) (nm : Nat → Int64) (M A c : Nat) : Nat := sumN (fun v => sumN (fun q => if A.testBit q && decide (pN w nm q c = v) then gN w q else 0) M * sumN (fun q => if A.testBit q && decide (pN w nm q c = v) then gN w q else 0) M) 26
theorem lvN_lt {v : HallV} {w : Nat → Int32} {nm : Nat → Int64} {M A c : Nat} (P : Ppl v w nm M) : lvN w nm M A c ≤ 400000 := by
  have h1 : ∀ y, sumN (fun q => if A.testBit q && decide (pN w nm q c = y) then gN w q else 0) M ≤ 108 := fun y => by
    have := sumN_le (fun q => if A.testBit q && decide (pN w nm q c = y) then gN w q else 0) 9 M (fun i hi => by
      have := (P.gb i hi).2
      show (if _ then gN w i else 0) ≤ 9
      split <;> omega)
    have := P.m12
    omega
  have := sumN_le (fun v => sumN (fun q => if A.testBit q && decide (pN w nm q c = v) then gN w q else 0) M * sumN (fun q => if A.testBit q && decide (pN w nm q c = v) then gN w q else 0) M) 11664 26 (fun i _ => Nat.mul_le_mul (h1 i) (h1 i))
  unfold lvN
  omega
theorem odds_L {v : HallV} {w : Nat → Int32} {nm : Nat → Int64} {M A p : Nat} {ab be : Int64} {mr : Nat → Int32} (P : Ppl v w nm M) (hA : A < 2 ^ M) (hp : p < M) : ∀ d fu k, d + k = M → d < fu → f_X11_odds_L40 w nm fu ab be mr (nI p) (nI A) (nI (sumN (seenF w A) k)) (nI k) = Option.bind (f_X11_share ab be (nI (gN w p)).toInt64 (nI (sumN (seenF w A) M)).toInt64) (fun q96 => some (q96.1, q96.2.1, q96.2.2, mr)) := by
  intro d
  induction d with
  | zero =>
    intro fu k hd hf
    obtain ⟨fu, rfl⟩ : ∃ m, fu = m + 1 := ⟨fu - 1, by omega⟩
    have e : k = M := by omega
    subst e
    have hM := P.m12
    have m1 : (49 : Int32) + nI p = nI (49 + p) := nI_add 49 p
    rw [f_X11_odds_L40, if_neg k0.1, k0.2.1, P.a2, if_pos (Int32.le_refl _), m1, gg (by omega) (by omega), nI_clamp (by omega), P.gm p hp]
  | succ d ih =>
    intro fu k hd hf
    obtain ⟨fu, rfl⟩ : ∃ m, fu = m + 1 := ⟨fu - 1, by omega⟩
    have hM := P.m12
    have e1 := ih fu (k + 1) (by omega) (by omega)
    rw [sumN] at e1
    have m1 : (49 : Int32) + nI k = nI (49 + k) := nI_add 49 k
    rw [f_X11_odds_L40, if_neg k0.1, k0.2.1, P.a2, if_neg (nI_ge (a := k) (b := M) (by omega) (by omega)), (isIn_eq (p12 P.m12 hA) (by omega)).2, Option.bind_some, m1, gg (by omega) (by omega), nI_clamp (by omega), P.gm k (by omega)]
    simp only [ite01]
    unfold f_X11_odds_B75
    rw [nI_1, nI_add, Int32.add_zero]
    unfold seenF at e1 ⊢
    by_cases h : A.testBit k = true
    · rw [if_neg (fun z => z h)]
      rw [if_pos h] at e1
      exact e1
    · rw [if_pos h]
      rw [if_neg h] at e1
      exact e1
theorem sumN_pos (f : Nat → Nat) (i : Nat) : ∀ n, i < n → f i ≤ sumN f n := by
  intro n
  induction n with
  | zero => intro h; omega
  | succ n ih =>
    intro h
    rw [sumN]
    by_cases q : i = n
    · subst q; omega
    · have := ih (by omega); omega
theorem next_L {v : HallV} {w : Nat → Int32} {nm : Nat → Int64} {M A : Nat} {mr : Nat → Int32} (P : Ppl v w nm M) (hA : A < 2 ^ M) : ∀ d fu fu' k x2 x3, d + k = 5 → d < fu → d < fu' → ∃ r, f_X4_nextPart_L7 v fu (nI A) x2 x3 (nI k) = some r ∧ f_X11_next_L23 w nm fu' mr (nI A) x2 x3 (nI k) = some (r, mr) := by
  intro d
  induction d with
  | zero =>
    intro fu fu' k x2 x3 hd hf hf'
    obtain ⟨fu, rfl⟩ : ∃ m, fu = m + 1 := ⟨fu - 1, by omega⟩
    obtain ⟨fu', rfl⟩ : ∃ m, fu' = m + 1 := ⟨fu' - 1, by omega⟩
    have e : k = 5 := by omega
    subst e
    exact ⟨x2, by rw [f_X4_nextPart_L7, if_pos (by decide)], by rw [f_X11_next_L23, if_pos (by decide)]⟩
  | succ d ih =>
    intro fu fu' k x2 x3 hd hf hf'
    obtain ⟨fu, rfl⟩ : ∃ m, fu = m + 1 := ⟨fu - 1, by omega⟩
    obtain ⟨fu', rfl⟩ : ∃ m, fu' = m + 1 := ⟨fu' - 1, by omega⟩
    have n5 : ¬ (5 : Int32) ≤ nI k := nI_ge (a := k) (b := 5) (by omega) (by decide)
    have m1 : (110 : Int32) + nI k = nI (110 + k) := nI_add 110 k
    have e1 : ∀ y2 y3, _ := fun y2 y3 => ih fu fu' (k + 1) y2 y3 (by omega) (by omega) (by omega)
    have hl : ¬ nI (lvN w nm M A k) < 0 := nI_pos (by have := lvN_lt (c := k) (A := A) P; omega)
    rw [f_X4_nextPart_L7, if_neg n5, P.hk k (by omega), Option.bind_some, mean_eq P hA (by omega), f_X11_next_L23, if_neg n5, m1, gg (by omega) (by omega), nI_clamp (by omega), lv_eq P hA (by omega), Option.bind_some, Option.bind_some]
    unfold f_X4_nextPart_B43 f_X4_nextPart_B49 f_X11_next_B54 f_X11_next_B72 f_X11_next_B78
    have hl : ¬ nI (sumN (fun v => sumN (fun q => if A.testBit q && decide (pN w nm q k = v) then gN w q else 0) M * sumN (fun q => if A.testBit q && decide (pN w nm q k = v) then gN w q else 0) M) 26) < 0 := hl
    rw [nI_1, if_neg hl, if_pos (show (-1 : Int32) < 0 from by decide)]
    by_cases q : w (110 + k) = -1
    · rw [if_pos q, if_pos q]
      by_cases q2 : x2 = -1
      · rw [if_pos q2, if_pos q2]; exact e1 _ _
      · rw [if_neg q2, if_neg q2]
        split
        · exact e1 _ _
        · exact e1 _ _
    · rw [if_neg q, if_neg q]; exact e1 _ _
theorem ask_L {v : HallV} {w : Nat → Int32} {nm : Nat → Int64} {M A K : Nat} {mr : Nat → Int32} (P : Ppl v w nm M) (hA : A < 2 ^ M) (hK : K ≤ 6) (c1 : v.1 2 = nI K) (c2 : w 89 = nI K) (hq : ∀ q, q < K → QRel v w 0 q) : ∀ d fu fu' k x2 a b, d + k = K → d < fu → d < fu' → a ≤ 400000 → b ≤ 9 → ∃ r, f_X4_bestQuestion_L10 v fu (nI A) x2 (nI a) (nI b) (nI k) = some r ∧ f_X11_ask_L23 w nm fu' mr (nI A) x2 (nI (100 * a + b)) (nI k) = some (r, mr) := by
  intro d
  induction d with
  | zero =>
    intro fu fu' k x2 a b hd hf hf' _ _
    obtain ⟨fu, rfl⟩ : ∃ m, fu = m + 1 := ⟨fu - 1, by omega⟩
    obtain ⟨fu', rfl⟩ : ∃ m, fu' = m + 1 := ⟨fu' - 1, by omega⟩
    have e : k = K := by omega
    subst e
    exact ⟨x2, by rw [f_X4_bestQuestion_L10, f_X8_size, c1, Option.bind_some, if_pos (Int32.le_refl _)], by rw [f_X11_ask_L23, if_neg k89.1, k89.2.1, c2, if_pos (Int32.le_refl _)]⟩
  | succ d ih =>
    intro fu fu' k x2 a b hd hf hf' ha hb
    obtain ⟨fu, rfl⟩ : ∃ m, fu = m + 1 := ⟨fu - 1, by omega⟩
    obtain ⟨fu', rfl⟩ : ∃ m, fu' = m + 1 := ⟨fu' - 1, by omega⟩
    have nl : ¬ nI K ≤ nI k := nI_ge (a := k) (b := K) (by omega) (by omega)
    have m1 : (90 : Int32) + nI k = nI (90 + k) := nI_add 90 k
    have m2 : (96 : Int32) + nI k = nI (96 + k) := nI_add 96 k
    have hqk := hq k (by omega)
    unfold QRel at hqk
    simp only [Nat.zero_add] at hqk
    obtain ⟨⟨q1, c, ec, _, hc⟩, ⟨q2, s, es, _, hs⟩⟩ := hqk
    have m3 : (110 : Int32) + nI c = nI (110 + c) := nI_add 110 c
    have t1 : f_X8_number (2 : Int32) 12 (v.2.1 2) (nI k) (0 : Int32) = some (nI c) := by rw [num_at (wd := 2) (N := 12) (x := nI k) (y := 0) k 0 2 rfl rfl rfl (by omega) (by decide), q1, i64_i32, ec]
    have t2 : f_X8_number (2 : Int32) 12 (v.2.1 2) (nI k) (1 : Int32) = some (nI s) := by rw [num_at (wd := 2) (N := 12) (x := nI k) (y := 1) k 1 2 rfl rfl rfl (by omega) (by decide), q2, i64_i32, es]
    have hlv := lvN_lt (c := c) (A := A) P
    have me := mean_eq P hA (c := c) (by omega)
    have le := lv_eq P hA (c := c) (by omega)
    change f_X4_leftInMean v (nI A) (nI c) = some (nI (lvN w nm M A c)) at me
    change f_X11_leaves w nm (nI A) (nI c) = some (nI (lvN w nm M A c)) at le
    generalize lvN w nm M A c = y at hlv me le
    have e1 : ∀ y2 y3 y4, y3 ≤ 400000 → y4 ≤ 9 → _ := fun y2 y3 y4 h3 h4 => ih fu fu' (k + 1) y2 y3 y4 (by omega) (by omega) (by omega) h3 h4
    have e100 : (100 : Int32) * nI y + nI s = nI (100 * y + s) := by rw [show (100 : Int32) = nI 100 from rfl, nI_mul, nI_add]
    rw [f_X4_bestQuestion_L10, f_X8_size, c1, Option.bind_some, if_neg nl, t1, Option.bind_some, t2, Option.bind_some, P.hk c (by omega), Option.bind_some, me, Option.bind_some]
    rw [f_X11_ask_L23, if_neg k89.1, k89.2.1, c2, if_neg nl, m1, m2, gg (by omega) (by omega), nI_clamp (by omega), ec, m3, gg (by omega) (by omega), nI_clamp (by omega), gg' (by omega) (by omega), le, Option.bind_some, gg (by omega) (by omega), nI_clamp (by omega), es, e100]
    unfold f_X4_bestQuestion_B89 f_X4_bestQuestion_B99 f_X11_ask_B90 f_X11_ask_B108 f_X11_ask_B114
    rw [nI_1, if_neg (nI_pos (n := 100 * y + s) (by omega)), if_pos (show (-1 : Int32) < 0 from by decide)]
    by_cases q : w (110 + c) = -1
    · rw [if_pos q, if_pos q]
      by_cases q2 : x2 = -1
      · rw [if_pos q2, if_pos q2]; exact e1 _ _ _ hlv hs
      · rw [if_neg q2, if_neg q2]
        have l1 : nI y < nI a ↔ y < a := nI_ltI (by omega) (by omega)
        have l2 : nI y = nI a ↔ y = a := nI_eq (by omega) (by omega)
        have l3 : nI b ≤ nI s ↔ b ≤ s := nI_leI (by omega) (by omega)
        have l4 : nI (100 * a + b) ≤ nI (100 * y + s) ↔ 100 * a + b ≤ 100 * y + s := nI_leI (by omega) (by omega)
        simp only [l1, l2, l3, l4]
        by_cases r1 : y < a
        · rw [if_pos r1, if_neg (by omega)]; exact e1 _ _ _ hlv hs
        · rw [if_neg r1]
          by_cases r2 : y = a
          · rw [if_pos r2]
            by_cases r3 : b ≤ s
            · rw [if_pos r3, if_pos (by omega)]; exact e1 _ _ _ ha hb
            · rw [if_neg r3, if_neg (by omega)]; exact e1 _ _ _ hlv hs
          · rw [if_neg r2, if_pos (by omega)]; exact e1 _ _ _ ha hb
    · rw [if_neg q, if_neg q]; exact e1 _ _ _ ha hb
theorem r_odds {keptImages : Int32} {fab : Int64} {fbe : Int64} {bads : Int32} {noes : Int32} {fulls : Int32} {now : HallV} {bl : Int32} {kp : Int32} {ring : Nat → HallV} {imgs : Nat → HallV} {tlen : Int32} {tby : Nat → Int32} {draft : HallV} {rall : Nat → Int32} {nmost : Nat → Int32} {mw : Nat → Int32} {mnames : Nat → Int64} {mkept : Nat → Int32} {mtext : Nat → Int32} {mtexted : Int32} {mundo : Int32} {mabove : Int64} {mbelow : Int64} {mrefused : Nat → Int32} (hR : Rel now bl kp ring imgs tlen tby draft rall nmost keptImages fab fbe bads noes fulls mw mnames mkept mtext mtexted mundo mabove mbelow mrefused) (x1 : Int32) : ∃ (q : Int32 × Int64 × Int64 × Int32 × Int32 × Int32) (q' : Int32 × Int64 × Int64 × (Nat → Int32)), f_X10_odds fab fbe bads noes fulls now x1 = some q ∧ f_X11_odds mw mnames mabove mbelow mrefused x1 = some q' ∧ q.1 = q'.1 ∧ Rel now bl kp ring imgs tlen tby draft rall nmost keptImages q.2.1 q.2.2.1 q.2.2.2.1 q.2.2.2.2.1 q.2.2.2.2.2 mw mnames mkept mtext mtexted mundo q'.2.1 q'.2.2.1 q'.2.2.2 := by
  obtain ⟨M, W, P, hW, e1, e2⟩ := hR.1.ppl
  obtain ⟨o1, o2⟩ := isone P.m12 P.a1 P.a2 x1
  by_cases g : 0 ≤ x1 ∧ x1 < nI M
  · obtain ⟨p, rfl, hpM⟩ := ltM (by have := P.m12; omega) g
    have hM := P.m12
    obtain ⟨i1, i2⟩ := isIn_eq (p12 P.m12 hW) (p := p) (by omega)
    by_cases h : W.testBit p = true
    · have sl : sumN (seenF mw W) M ≤ 12 * 9 := Nat.le_trans (sumN_le _ 9 M (fun i hi => by unfold seenF; split; exact (P.gb i hi).2; omega)) (Nat.mul_le_mul_right 9 hM)
      have sp : 0 < sumN (seenF mw W) M := by
        have := sumN_pos (seenF mw W) p M hpM
        unfold seenF at this ⊢
        rw [if_pos h] at this
        have := (P.gb p hpM).1
        omega
      have gb := P.gb p hpM
      obtain ⟨f1, f2, k1, k2⟩ := frac_eq fab fbe mabove mbelow (gN mw p) (sumN (seenF mw W) M) (by omega) (by omega) sp
      refine ⟨((1 : Int32), f1, f2, bads, noes, fulls), ((1 : Int32), f1, f2, mrefused), ?_, ?_, rfl, ?_⟩
      · unfold f_X10_odds
        simp only [o1, g, e1, i1, h, P.gc p hpM, seen_eq P hW, nI_l (n := gN mw p) (by omega), nI_l (n := sumN (seenF mw W) M) (by omega), k1, one0, i01, Option.bind_some, not_true, if_false, not_false_eq_true, if_true, and_self]
      · unfold f_X11_odds
        have L := odds_L (ab := mabove) (be := mbelow) (mr := mrefused) P hW hpM M FU 0 (by omega) (FU1 (by omega))
        have L : f_X11_odds_L40 mw mnames FU mabove mbelow mrefused (nI p) (nI W) (0 : Int32) (0 : Int32) = _ := L
        simp only [o2, g, e2, i2, h, L, nI_l (n := gN mw p) (by omega), nI_l (n := sumN (seenF mw W) M) (by omega), k2, one0, i01, Option.bind_some, not_true, if_false, not_false_eq_true, if_true, and_self]
      · exact ⟨hR.1, hR.2.1, hR.2.2.1, hR.2.2.2.1, hR.2.2.2.2.1, hR.2.2.2.2.2.1, hR.2.2.2.2.2.2.1, ⟨rfl, rfl⟩, hR.2.2.2.2.2.2.2.2⟩
    · obtain ⟨b, n, f, m, c1, c2, c3⟩ := ct hR.2.2.2.2.2.2.2.2 (-3)
      refine ⟨(-3, fab, fbe, b, n, f), (-3, mabove, mbelow, m), ?_, ?_, rfl, hR.now hR.1 (fun _ _ => rfl) (fun _ _ => rfl) c3⟩
      · unfold f_X10_odds
        simp only [o1, g, e1, i1, h, c1, one0, i01, Option.bind_some, not_true, if_false, not_false_eq_true, if_true, and_self, Bool.false_eq_true]
      · unfold f_X11_odds
        simp only [o2, g, e2, i2, h, c2, one0, i01, Option.bind_some, not_true, if_false, not_false_eq_true, if_true, and_self, Bool.false_eq_true]
  · obtain ⟨b, n, f, m, c1, c2, c3⟩ := ct hR.2.2.2.2.2.2.2.2 (-2)
    refine ⟨(-2, fab, fbe, b, n, f), (-2, mabove, mbelow, m), ?_, ?_, rfl, hR.now hR.1 (fun _ _ => rfl) (fun _ _ => rfl) c3⟩
    · unfold f_X10_odds
      simp only [o1, g, c1, one0, i01, Option.bind_some, not_true, if_false, not_false_eq_true, if_true, and_self]
    · unfold f_X11_odds
      simp only [o2, g, c2, one0, i01, Option.bind_some, not_true, if_false, not_false_eq_true, if_true, and_self]
theorem r_next {keptImages : Int32} {fab : Int64} {fbe : Int64} {bads : Int32} {noes : Int32} {fulls : Int32} {now : HallV} {bl : Int32} {kp : Int32} {ring : Nat → HallV} {imgs : Nat → HallV} {tlen : Int32} {tby : Nat → Int32} {draft : HallV} {rall : Nat → Int32} {nmost : Nat → Int32} {mw : Nat → Int32} {mnames : Nat → Int64} {mkept : Nat → Int32} {mtext : Nat → Int32} {mtexted : Int32} {mundo : Int32} {mabove : Int64} {mbelow : Int64} {mrefused : Nat → Int32} (hR : Rel now bl kp ring imgs tlen tby draft rall nmost keptImages fab fbe bads noes fulls mw mnames mkept mtext mtexted mundo mabove mbelow mrefused)  : ∃ (q : Int32 × Int32 × Int32 × Int32) (q' : Int32 × (Nat → Int32)), f_X10_next bads noes fulls now = some q ∧ f_X11_next mw mnames mrefused = some q' ∧ q.1 = q'.1 ∧ Rel now bl kp ring imgs tlen tby draft rall nmost keptImages fab fbe q.2.1 q.2.2.1 q.2.2.2 mw mnames mkept mtext mtexted mundo mabove mbelow q'.2 := by
  obtain ⟨M, W, P, hW, e1, e2⟩ := hR.1.ppl
  have w31 := p12 P.m12 hW
  by_cases z : W = 0
  · subst z
    obtain ⟨b, n, f, m, c1, c2, c3⟩ := ct hR.2.2.2.2.2.2.2.2 (-3)
    have z0 : nI 0 = (0 : Int32) := rfl
    refine ⟨(-3, b, n, f), (-3, m), ?_, ?_, rfl, hR.now hR.1 (fun _ _ => rfl) (fun _ _ => rfl) c3⟩
    · unfold f_X10_next
      simp only [e1, z0, c1, Option.bind_some, if_true]
    · unfold f_X11_next
      simp only [e2, z0, c2, Option.bind_some, if_true]
  · have zn : ¬ nI W = 0 := nI_ne0 (by omega) w31
    obtain ⟨r, k1, k2⟩ := next_L (mr := mrefused) P hW 5 FU FU 0 (-1) 0 (by omega) (FU1 (by omega)) (FU1 (by omega))
    have k1 : f_X4_nextPart now (nI W) = some r := k1
    have k2 : f_X11_next_L23 mw mnames FU mrefused (nI W) (-1 : Int32) (0 : Int32) (0 : Int32) = some (r, mrefused) := k2
    refine ⟨(r, bads, noes, fulls), (r, mrefused), ?_, ?_, rfl, hR⟩
    · unfold f_X10_next
      simp only [e1, zn, k1, Option.bind_some, if_false]
    · unfold f_X11_next
      simp only [e2, zn, k2, Option.bind_some, if_false]
theorem r_ask {keptImages : Int32} {fab : Int64} {fbe : Int64} {bads : Int32} {noes : Int32} {fulls : Int32} {now : HallV} {bl : Int32} {kp : Int32} {ring : Nat → HallV} {imgs : Nat → HallV} {tlen : Int32} {tby : Nat → Int32} {draft : HallV} {rall : Nat → Int32} {nmost : Nat → Int32} {mw : Nat → Int32} {mnames : Nat → Int64} {mkept : Nat → Int32} {mtext : Nat → Int32} {mtexted : Int32} {mundo : Int32} {mabove : Int64} {mbelow : Int64} {mrefused : Nat → Int32} (hR : Rel now bl kp ring imgs tlen tby draft rall nmost keptImages fab fbe bads noes fulls mw mnames mkept mtext mtexted mundo mabove mbelow mrefused)  : ∃ (q : Int32 × Int32 × Int32 × Int32) (q' : Int32 × (Nat → Int32)), f_X10_ask bads noes fulls now = some q ∧ f_X11_ask mw mnames mrefused = some q' ∧ q.1 = q'.1 ∧ Rel now bl kp ring imgs tlen tby draft rall nmost keptImages fab fbe q.2.1 q.2.2.1 q.2.2.2 mw mnames mkept mtext mtexted mundo mabove mbelow q'.2 := by
  obtain ⟨M, W, P, hW, e1, e2⟩ := hR.1.ppl
  have w31 := p12 P.m12 hW
  by_cases z : W = 0
  · subst z
    obtain ⟨b, n, f, m, c1, c2, c3⟩ := ct hR.2.2.2.2.2.2.2.2 (-3)
    have z0 : nI 0 = (0 : Int32) := rfl
    refine ⟨(-3, b, n, f), (-3, m), ?_, ?_, rfl, hR.now hR.1 (fun _ _ => rfl) (fun _ _ => rfl) c3⟩
    · unfold f_X10_ask
      simp only [e1, z0, c1, Option.bind_some, if_true]
    · unfold f_X11_ask
      simp only [e2, z0, c2, Option.bind_some, if_true]
  · have zn : ¬ nI W = 0 := nI_ne0 (by omega) w31
    obtain ⟨M2, T, K, ⟨hM, hT, hK⟩, ⟨a1, a2⟩, ⟨b1, b2⟩, ⟨d1, d2⟩, hrows, hp, ht, hq, hs, hk, hd, hd2⟩ := id hR.1
    obtain ⟨r, k1, k2⟩ := ask_L (mr := mrefused) P hW hK d1 d2 hq K FU FU 0 (-1) 0 0 (by omega) (FU1 (by omega)) (FU1 (by omega)) (by omega) (by omega)
    have k1 : f_X4_bestQuestion now (nI W) = some r := k1
    have k2 : f_X11_ask_L23 mw mnames FU mrefused (nI W) (-1 : Int32) (0 : Int32) (0 : Int32) = some (r, mrefused) := k2
    refine ⟨(r, bads, noes, fulls), (r, mrefused), ?_, ?_, rfl, hR⟩
    · unfold f_X10_ask
      simp only [e1, zn, k1, Option.bind_some, if_false]
    · unfold f_X11_ask
      simp only [e2, zn, k2, Option.bind_some, if_false]
