/-! PURE 6: names -/
theorem shr_eq {n d : Nat} (D : Int64) (hD : (D.toBitVec.smod 64).toNat = d) (h : n < 2 ^ 63) : lN n >>> D = lN (n / 2 ^ d) := by
  apply Int64.toInt_inj.mp
  have e : (lN n >>> D).toInt = (lN n).toInt >>> d := by
    rw [← Int64.toInt_toBitVec, Int64.toBitVec_shiftRight, BitVec.sshiftRight', hD, BitVec.toInt_sshiftRight]
    rfl
  rw [e, pk_lT h, pk_lT (Nat.lt_of_le_of_lt (Nat.div_le_self _ _) h), Int.shiftRight_eq_div_pow]
  rw [Int.natCast_ediv]
theorem andm {n k : Nat} {m : Int64} (hk : k < 63) (hm : m = lN (2 ^ k - 1)) (h : n < 2 ^ 63) : lN n &&& m = lN (n % 2 ^ k) := by
  subst hm
  apply Int64.toBitVec_inj.mp
  apply BitVec.eq_of_toNat_eq
  have hp : 2 ^ k < 2 ^ 63 := Nat.pow_lt_pow_right (by decide) hk
  have tn : ∀ j, j < 2 ^ 64 → (lN j).toBitVec.toNat = j := fun j hj => by
    show (BitVec.ofNat 64 j).toNat = j
    rw [BitVec.toNat_ofNat]; exact Nat.mod_eq_of_lt hj
  have hm2 : n % 2 ^ k < 2 ^ 64 := Nat.lt_of_le_of_lt (Nat.mod_le _ _) (by omega)
  rw [Int64.toBitVec_and, BitVec.toNat_and, tn n (by omega), tn (2 ^ k - 1) (by omega), tn _ hm2, Nat.and_two_pow_sub_one_eq_mod]
def dig : Nat → Nat → List Nat
  | 0, _ => []
  | f + 1, n => if n = 0 then [] else dig f (n / 32) ++ [n % 32]
abbrev gd (d : Nat) : Prop := 1 ≤ d ∧ d ≤ 26
theorem dig_len : ∀ f n k, n < 32 ^ f → ((dig f n).length ≤ k ↔ n < 32 ^ k) := by
  intro f
  induction f with
  | zero =>
    intro n k h
    have e : n = 0 := by simp at h; omega
    subst e
    simp [dig, Nat.pow_pos]
  | succ f ih =>
    intro n k h
    rw [dig]
    by_cases z : n = 0
    · subst z; simp [Nat.pow_pos]
    · rw [if_neg z, List.length_append]
      match k with
      | 0 => simp; omega
      | k + 1 =>
        have h2 : n / 32 < 32 ^ f := by rw [Nat.pow_succ] at h; exact Nat.div_lt_of_lt_mul (by omega)
        have h3 := ih (n / 32) k h2
        have h4 : n / 32 < 32 ^ k ↔ n < 32 ^ (k + 1) := by rw [Nat.pow_succ]; exact Nat.div_lt_iff_lt_mul (by decide)
        rw [← h4, ← h3]
        simp
theorem dig_v : ∀ f n, n < 32 ^ f → nmv (dig f n) = n := by
  intro f
  induction f with
  | zero => intro n h; simp at h; subst h; rfl
  | succ f ih =>
    intro n h
    rw [dig]
    by_cases z : n = 0
    · subst z; rfl
    · rw [if_neg z]
      have h2 : n / 32 < 32 ^ f := by rw [Nat.pow_succ] at h; exact Nat.div_lt_of_lt_mul (by omega)
      have h3 := ih _ h2
      unfold nmv at h3 ⊢
      rw [List.foldl_append, h3]
      show 32 * (n / 32) + n % 32 = n
      omega
theorem dig_all {P : Nat → Prop} : ∀ f n, (∀ d ∈ dig f n, P d) ↔ ∀ i, i < (dig f n).length → P (n / 32 ^ i % 32) := by
  intro f
  induction f with
  | zero => intro n; simp [dig]
  | succ f ih =>
    intro n
    rw [dig]
    by_cases z : n = 0
    · subst z; simp
    · rw [if_neg z]
      have e : ∀ i, n / 32 / 32 ^ i = n / 32 ^ (i + 1) := fun i => by rw [Nat.div_div_eq_div_mul, Nat.pow_succ, Nat.mul_comm]
      constructor
      · intro h i hi
        match i with
        | 0 => have := h (n % 32) (by simp); simpa using this
        | i + 1 =>
          have h2 := (ih (n / 32)).mp (fun d hd => h d (by simp [hd])) i (by simp at hi; exact hi)
          rwa [e] at h2
      · intro h d hd
        rcases List.mem_append.mp hd with h1 | h1
        · refine (ih (n / 32)).mpr (fun i hi => ?_) d h1
          rw [e]; exact h (i + 1) (by simp; exact hi)
        · have e2 : d = n % 32 := by simpa using h1
          have := h 0 (by simp)
          rw [e2]; simpa using this
theorem p32 {n f : Nat} (h : n < 32 ^ (f + 1)) : n / 32 < 32 ^ f := by rw [Nat.pow_succ] at h; exact Nat.div_lt_of_lt_mul (by omega)
theorem l0 {n : Nat} (h : n < 2 ^ 63) : lg_cmp (lN n) (0 : Int64) ≤ 0 ↔ n = 0 := by
  rw [lg_cmp_le, show (0 : Int64) = lN 0 from rfl, pk_lLE h (by decide)]; omega
theorem d32 {n : Nat} (h : n < 2 ^ 63) : lN n / (32 : Int64) = lN (n / 32) ∧ lrm (lN n) (32 : Int64) = lN (n % 32) := ⟨pk_lDiv (b := 32) h (by decide) (by decide), pk_lRem (b := 32) h (by decide) (by decide)⟩
theorem letM : ∀ f fu n c, n < 32 ^ f → n < 2 ^ 63 → f < fu → f_X11_lettersOf_L4 fu (nI c) (lN n) = some (nI (c + (dig f n).length)) := by
  intro f
  induction f with
  | zero =>
    intro fu n c h h2 hf
    obtain ⟨fu, rfl⟩ : ∃ m, fu = m + 1 := ⟨fu - 1, by omega⟩
    have e : n = 0 := by simp at h; omega
    subst e
    rw [f_X11_lettersOf_L4, if_pos ((l0 h2).mpr rfl)]; rfl
  | succ f ih =>
    intro fu n c h h2 hf
    obtain ⟨fu, rfl⟩ : ∃ m, fu = m + 1 := ⟨fu - 1, by omega⟩
    rw [f_X11_lettersOf_L4, dig]
    by_cases z : n = 0
    · rw [if_pos ((l0 h2).mpr z), if_pos z]; rfl
    · rw [if_neg (fun q => z ((l0 h2).mp q)), if_neg z, (d32 h2).1, nI_1, ih fu (n / 32) (c + 1) (p32 h) (by omega) (by omega)]
      congr 2
      simp; omega
theorem in26 {n : Nat} (h : n < 32) : f_X11_in (lN n) (1 : Int64) (26 : Int64) = some (if gd n then 1 else 0) := by
  rw [in_eq, show (1 : Int64) = lN 1 from rfl, show (26 : Int64) = lN 26 from rfl]
  simp only [pk_lLE (a := 1) (b := n) (by decide) (by omega), pk_lLE (a := n) (b := 26) (by omega) (by decide), gd]
theorem okM : ∀ f fu n (P : Prop) [Decidable P], n < 32 ^ f → n < 2 ^ 63 → f < fu → f_X11_isName_L21 fu (if P then 1 else 0) (lN n) = some (if P ∧ ∀ d ∈ dig f n, gd d then 1 else 0) := by
  intro f
  induction f with
  | zero =>
    intro fu n P _ h h2 hf
    obtain ⟨fu, rfl⟩ : ∃ m, fu = m + 1 := ⟨fu - 1, by omega⟩
    have e : n = 0 := by simp at h; omega
    subst e
    rw [f_X11_isName_L21, if_pos ((l0 h2).mpr rfl), if_pos (by by_cases q : P <;> simp [q])]
    simp [dig]
  | succ f ih =>
    intro fu n P _ h h2 hf
    obtain ⟨fu, rfl⟩ : ∃ m, fu = m + 1 := ⟨fu - 1, by omega⟩
    rw [f_X11_isName_L21]
    by_cases z : n = 0
    · subst z
      rw [if_pos ((l0 h2).mpr rfl), if_pos (by by_cases q : P <;> simp [q])]
      simp [dig]
    · unfold f_X11_isName_B50 f_X11_isName_B51
      rw [if_neg (fun q => z ((l0 h2).mp q)), (d32 h2).1, (d32 h2).2, in26 (by omega)]
      simp only [i01, Option.bind_some]
      by_cases p : P
      · rw [if_neg (by simp [p])]
        by_cases g : gd (n % 32)
        · rw [if_neg (by simp [g])]
          have := ih fu (n / 32) True (p32 h) (by omega) (by omega)
          rw [if_pos trivial] at this
          rw [this]
          congr 1
          have e : (∀ d ∈ dig (f + 1) n, gd d) ↔ ∀ d ∈ dig f (n / 32), gd d := by
            rw [dig, if_neg z]
            simp only [List.mem_append, List.mem_singleton]
            exact ⟨fun q d hd => q d (Or.inl hd), fun q d hd => hd.elim (q d) (fun e => e ▸ g)⟩
          simp only [e, p]
        · rw [if_pos g]
          have := ih fu (n / 32) False (p32 h) (by omega) (by omega)
          rw [if_neg (fun q => q)] at this
          rw [this]
          congr 1
          have e : ¬ (∀ d ∈ dig (f + 1) n, gd d) := by
            rw [dig, if_neg z]
            exact fun q => g (q _ (by simp))
          simp only [e, false_and, and_false, if_false]
      · rw [if_pos p]
        have := ih fu (n / 32) False (p32 h) (by omega) (by omega)
        rw [if_neg (fun q => q)] at this
        rw [this]
        simp [p]
theorem n7 {k : Nat} (h : k < 7) : ¬ (7 : Int32) ≤ nI k := nge (a := k) (b := 7) h (by decide)
theorem sh5 : ∀ k, k < 7 → ((((5 : Int32) * nI k).toInt64 &&& (63 : Int64)).toBitVec.smod 64).toNat = 5 * k := by decide
theorem s5 {n k : Nat} (hk : k < 7) (h : n < 2 ^ 63) : lN n >>> (((5 : Int32) * nI k).toInt64 &&& (63 : Int64)) = lN (n / 32 ^ k) := by
  rw [shr_eq _ (sh5 k hk) h, Nat.pow_mul]
/-- letters counted by sevens: any number has at most seven -/
theorem letC0 (x : Int64) : ∀ d fu k r, d + k = 7 → d < fu → r ≤ 7 → ∃ r', r' ≤ 7 ∧ f_X2_lettersOf_L4 fu x (nI r) (nI k) = some (nI r') := by
  intro d
  induction d with
  | zero =>
    intro fu k r hk hf hr
    obtain ⟨fu, rfl⟩ : ∃ m, fu = m + 1 := ⟨fu - 1, by omega⟩
    have e : k = 7 := by omega
    subst e
    exact ⟨r, hr, by rw [f_X2_lettersOf_L4, if_pos (by decide)]⟩
  | succ d ih =>
    intro fu k r hk hf hr
    obtain ⟨fu, rfl⟩ : ∃ m, fu = m + 1 := ⟨fu - 1, by omega⟩
    rw [f_X2_lettersOf_L4, if_neg (n7 (by omega))]
    unfold f_X2_lettersOf_B24
    rw [nI_1]
    by_cases q : lg_cmp (x >>> (((5 : Int32) * nI k).toInt64 &&& (63 : Int64))) (0 : Int64) ≤ 0
    · rw [if_pos q]; exact ih fu (k + 1) r (by omega) (by omega) hr
    · rw [if_neg q]; exact ih fu (k + 1) (k + 1) (by omega) (by omega) (by omega)
theorem letC {n : Nat} (hn : n < 32 ^ 7) : ∀ d fu k, d + k = 7 → d < fu → f_X2_lettersOf_L4 fu (lN n) (nI (min k (dig 7 n).length)) (nI k) = some (nI (dig 7 n).length) := by
  have hl : (dig 7 n).length ≤ 7 := (dig_len 7 n 7 hn).mpr hn
  have h63 : n < 2 ^ 63 := Nat.lt_of_lt_of_le hn (by decide)
  intro d
  induction d with
  | zero =>
    intro fu k hk hf
    obtain ⟨fu, rfl⟩ : ∃ m, fu = m + 1 := ⟨fu - 1, by omega⟩
    have e : k = 7 := by omega
    subst e
    rw [f_X2_lettersOf_L4, if_pos (by decide), Nat.min_eq_right hl]
  | succ d ih =>
    intro fu k hk hf
    obtain ⟨fu, rfl⟩ : ∃ m, fu = m + 1 := ⟨fu - 1, by omega⟩
    rw [f_X2_lettersOf_L4, if_neg (n7 (by omega)), s5 (by omega) h63]
    unfold f_X2_lettersOf_B24
    rw [nI_1]
    have hz : n / 32 ^ k = 0 ↔ (dig 7 n).length ≤ k := by rw [dig_len 7 n k hn, Nat.div_eq_zero_iff]; exact ⟨fun q => q.resolve_left (by have := Nat.pow_pos (n := k) (show 0 < 32 by decide); omega), Or.inr⟩
    have h632 : n / 32 ^ k < 2 ^ 63 := Nat.lt_of_le_of_lt (Nat.div_le_self _ _) h63
    by_cases q : (dig 7 n).length ≤ k
    · rw [if_pos ((l0 h632).mpr (hz.mpr q))]
      have := ih fu (k + 1) (by omega) (by omega)
      rw [Nat.min_eq_right (by omega)] at this
      rw [Nat.min_eq_right q]; exact this
    · rw [if_neg (fun z => q (hz.mp ((l0 h632).mp z)))]
      have := ih fu (k + 1) (by omega) (by omega)
      rw [Nat.min_eq_left (by omega)] at this
      exact this
theorem okC0 (x : Int64) (L : Nat) (hL : L ≤ 7) : ∀ d fu k, d + k = L → d < fu → f_X2_isName_L28 fu x (nI L) 0 (nI k) = some 0 := by
  intro d
  induction d with
  | zero =>
    intro fu k hk hf
    obtain ⟨fu, rfl⟩ : ∃ m, fu = m + 1 := ⟨fu - 1, by omega⟩
    have e : k = L := by omega
    subst e
    rw [f_X2_isName_L28, if_pos (Int32.le_refl _), if_pos (by decide)]
  | succ d ih =>
    intro fu k hk hf
    obtain ⟨fu, rfl⟩ : ∃ m, fu = m + 1 := ⟨fu - 1, by omega⟩
    rw [f_X2_isName_L28, if_neg (nI_ge (a := k) (b := L) (by omega) (by omega)), if_pos rfl]
    unfold f_X2_isName_B57 f_X2_isName_B58
    rw [nI_1]
    exact ih fu (k + 1) (by omega) (by omega)
theorem okC {n : Nat} (hn : n < 2 ^ 63) (L : Nat) (hL : L ≤ 7) : ∀ d fu k (P : Prop) [Decidable P], d + k = L → d < fu → f_X2_isName_L28 fu (lN n) (nI L) (if P then 1 else 0) (nI k) = some (if P ∧ ∀ i, i < L → k ≤ i → gd (n / 32 ^ i % 32) then 1 else 0) := by
  intro d
  induction d with
  | zero =>
    intro fu k P _ hk hf
    obtain ⟨fu, rfl⟩ : ∃ m, fu = m + 1 := ⟨fu - 1, by omega⟩
    have e : k = L := by omega
    subst e
    have e2 : (∀ i, i < k → k ≤ i → gd (n / 32 ^ i % 32)) := fun i h1 h2 => absurd h1 (by omega)
    rw [f_X2_isName_L28, if_pos (Int32.le_refl _), if_pos (by by_cases q : P <;> simp [q])]
    have e3 : (P ∧ ∀ i, i < k → k ≤ i → gd (n / 32 ^ i % 32)) ↔ P := ⟨And.left, fun p => ⟨p, e2⟩⟩
    simp only [e3]
  | succ d ih =>
    intro fu k P _ hk hf
    obtain ⟨fu, rfl⟩ : ∃ m, fu = m + 1 := ⟨fu - 1, by omega⟩
    rw [f_X2_isName_L28, if_neg (nI_ge (a := k) (b := L) (by omega) (by omega))]
    simp only [i01]
    by_cases p : P
    · rw [if_neg (by simp [p])]
      unfold f_X2_letterFromEnd
      have h32 : n / 32 ^ k < 2 ^ 63 := Nat.lt_of_le_of_lt (Nat.div_le_self _ _) hn
      rw [s5 (by omega) hn, andm (k := 5) (m := (31 : Int64)) (by decide) rfl h32, lN_i]
      simp only [Option.bind_some, within_eq, i01]
      have hg : ((1 : Int32) ≤ nI (n / 32 ^ k % 2 ^ 5) ∧ nI (n / 32 ^ k % 2 ^ 5) ≤ 26) ↔ gd (n / 32 ^ k % 32) := by
        have hm : n / 32 ^ k % 2 ^ 5 < 32 := Nat.mod_lt _ (by decide)
        unfold gd
        rw [show (1 : Int32) = nI 1 from rfl, show (26 : Int32) = nI 26 from rfl, nI_leI (by decide) (by omega), nI_leI (by omega) (by decide)]
      simp only [hg]
      unfold f_X2_isName_B57 f_X2_isName_B58
      rw [nI_1]
      by_cases g : gd (n / 32 ^ k % 32)
      · rw [if_neg (by simp [g])]
        have := ih fu (k + 1) True (by omega) (by omega)
        rw [if_pos trivial] at this
        rw [this]
        congr 1
        have e : (∀ i, i < L → k ≤ i → gd (n / 32 ^ i % 32)) ↔ ∀ i, i < L → k + 1 ≤ i → gd (n / 32 ^ i % 32) := by
          refine ⟨fun q i h1 h2 => q i h1 (by omega), fun q i h1 h2 => ?_⟩
          by_cases e : i = k
          · rw [e]; exact g
          · exact q i h1 (by omega)
        simp only [e, p]
      · rw [if_pos g, okC0 (lN n) L hL d fu (k + 1) (by omega) (by omega)]
        have e : ¬ (∀ i, i < L → k ≤ i → gd (n / 32 ^ i % 32)) := fun q => g (q k (by omega) (by omega))
        simp only [e, and_false, if_false]
    · rw [if_pos p]
      unfold f_X2_isName_B57 f_X2_isName_B58
      rw [nI_1, okC0 (lN n) L hL d fu (k + 1) (by omega) (by omega)]
      simp [p]
theorem isName_eq (x : Int64) : ∃ (c : Bool), f_X2_isName x = some (if c then 1 else 0) ∧ f_X11_isName x = some (if c then 1 else 0) ∧ (c = true → nameOk x) := by
  obtain ⟨r, hr, hL⟩ := letC0 x 7 FU 0 0 (by omega) (FU1 (by omega)) (by omega)
  have no : ∀ y, f_X2_isName_B23 y (nI r) = some 0 := fun y => okC0 y r hr r FU 0 (by omega) (FU1 (by omega))
  by_cases h0 : x ≤ 0
  · refine ⟨false, ?_, ?_, fun z => absurd z (by decide)⟩
    · unfold f_X2_isName f_X2_lettersOf
      have hL : f_X2_lettersOf_L4 FU x (0 : Int32) (0 : Int32) = some (nI r) := hL
      rw [hL, Option.bind_some, if_pos ((lg_cmp_le _ _).mpr h0), no]; rfl
    · unfold f_X11_isName
      rw [if_pos ((lg_cmp_le _ _).mpr h0)]; rfl
  · obtain ⟨n, hn, rfl⟩ := pk_lOf (x := x) (fun z => h0 (Int64.le_of_lt z))
    have n0 : n ≠ 0 := fun z => h0 (by rw [z]; decide)
    have q0 : ¬ lg_cmp (lN n) (0 : Int64) ≤ 0 := fun z => n0 ((l0 hn).mp z)
    have hM : f_X11_lettersOf (lN n) = some (nI (dig 13 n).length) := by
      have := letM 13 FU n 0 (Nat.lt_of_lt_of_le hn (by decide)) hn (FU1 (by omega))
      rw [Nat.zero_add] at this
      exact this
    have h13 := dig_len 13 n 7 (Nat.lt_of_lt_of_le hn (by decide))
    have hlen : (dig 13 n).length ≤ 13 := (dig_len 13 n 13 (Nat.lt_of_lt_of_le hn (by decide))).mpr (Nat.lt_of_lt_of_le hn (by decide))
    have h7 : nI (dig 13 n).length ≤ (7 : Int32) ↔ n < 32 ^ 7 := by rw [← h13]; exact nI_leI (b := 7) (by omega) (by omega)
    have hb : 0 ≤ lg_cmp (lN n) (34359738368 : Int64) ↔ ¬ n < 32 ^ 7 := by
      rw [lg_cmp_ge, show (34359738368 : Int64) = lN (32 ^ 7) from rfl, pk_lLE (by decide) hn]; omega
    by_cases hs : n < 32 ^ 7
    · have hd := dig_all (P := gd) 7 n
      have hl7 : (dig 7 n).length ≤ 7 := (dig_len 7 n 7 hs).mpr hs
      refine ⟨decide (∀ d ∈ dig 7 n, gd d), ?_, ?_, fun hc => ⟨dig 7 n, ?_, hl7, of_decide_eq_true hc, by rw [dig_v 7 n hs]⟩⟩
      · unfold f_X2_isName f_X2_lettersOf f_X2_isName_B24
        have e1 := letC hs 7 FU 0 (by omega) (FU1 (by omega))
        rw [Nat.zero_min] at e1
        have e1 : f_X2_lettersOf_L4 FU (lN n) (0 : Int32) (0 : Int32) = some (nI (dig 7 n).length) := e1
        rw [e1, Option.bind_some, if_neg q0, if_neg (fun z => (hb.mp z) hs)]
        have e2 := okC hn (dig 7 n).length hl7 (dig 7 n).length FU 0 True (by omega) (FU1 (by omega))
        rw [if_pos trivial] at e2
        have e2 : f_X2_isName_L28 FU (lN n) (nI (dig 7 n).length) (1 : Int32) (0 : Int32) = _ := e2
        rw [e2]
        congr 1
        have e3 : (∀ i, i < (dig 7 n).length → 0 ≤ i → gd (n / 32 ^ i % 32)) ↔ ∀ d ∈ dig 7 n, gd d := by rw [hd]; exact ⟨fun q i hi => q i hi (Nat.zero_le _), fun q i hi _ => q i hi⟩
        simp only [e3, true_and, decide_eq_true_eq]
      · unfold f_X11_isName
        rw [if_neg q0, hM, Option.bind_some, if_pos (h7.mpr hs)]
        have e2 := okM 7 FU n True hs hn (FU1 (by omega))
        rw [if_pos trivial] at e2
        rw [e2]
        simp only [true_and, decide_eq_true_eq]
      · intro z
        have := dig_v 7 n hs
        rw [z] at this
        exact n0 this.symm
    · refine ⟨false, ?_, ?_, fun z => absurd z (by decide)⟩
      · unfold f_X2_isName f_X2_lettersOf
        have hL : f_X2_lettersOf_L4 FU (lN n) (0 : Int32) (0 : Int32) = some (nI r) := hL
        rw [hL, Option.bind_some, if_neg q0, if_pos (hb.mpr hs), no]; rfl
      · unfold f_X11_isName
        rw [if_neg q0, hM, Option.bind_some, if_neg (fun z => hs (h7.mp z))]; rfl
