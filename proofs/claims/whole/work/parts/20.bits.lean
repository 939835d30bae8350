/-! ===== numbers: bits of sets, sums, joins over an initial segment ===== -/
theorem o_nat (n : Nat) : Int32.ofInt (n : Int) = nI n := Int32.ofInt_eq_ofNat
theorem nI_ti {n : Nat} (h : n < 2147483648) : (nI n).toInt = (n : Int) := nI_toInt (by omega)
theorem and_lt {a b c : Nat} (h : a < c) : a &&& b < c := Nat.lt_of_le_of_lt Nat.and_le_left h
theorem or_lt {a b k : Nat} (h : a < 2 ^ k) (h2 : b < 2 ^ k) : a ||| b < 2 ^ k := Nat.or_lt_two_pow h h2
theorem xor_lt {a b k : Nat} (h : a < 2 ^ k) (h2 : b < 2 ^ k) : a ^^^ b < 2 ^ k := Nat.xor_lt_two_pow h h2
theorem nI_and (a b : Nat) : nI a &&& nI b = nI (a &&& b) := by
  apply Int32.toBitVec_inj.mp
  show BitVec.ofNat 32 a &&& BitVec.ofNat 32 b = BitVec.ofNat 32 (a &&& b)
  rw [BitVec.ofNat_and]
theorem nI_or (a b : Nat) : nI a ||| nI b = nI (a ||| b) := by
  apply Int32.toBitVec_inj.mp
  show BitVec.ofNat 32 a ||| BitVec.ofNat 32 b = BitVec.ofNat 32 (a ||| b)
  rw [BitVec.ofNat_or]
theorem nI_xor (a b : Nat) : nI a ^^^ nI b = nI (a ^^^ b) := by
  apply Int32.toBitVec_inj.mp
  show BitVec.ofNat 32 a ^^^ BitVec.ofNat 32 b = BitVec.ofNat 32 (a ^^^ b)
  rw [BitVec.ofNat_xor]
theorem iand_n {a b : Nat} (h : a < 2147483648) : iandv (a : Int) (b : Int) = ((a &&& b : Nat) : Int) := by
  unfold iandv
  rw [o_nat, o_nat, nI_and, nI_ti (and_lt h)]
theorem ior_n {a b : Nat} (h : a < 2147483648) (h2 : b < 2147483648) : iorv (a : Int) (b : Int) = ((a ||| b : Nat) : Int) := by
  unfold iorv
  rw [o_nat, o_nat, nI_or, nI_ti (or_lt (k := 31) h h2)]
theorem ixor_n {a b : Nat} (h : a < 2147483648) (h2 : b < 2147483648) : ixorv (a : Int) (b : Int) = ((a ^^^ b : Nat) : Int) := by
  unfold ixorv
  rw [o_nat, o_nat, nI_xor, nI_ti (xor_lt (k := 31) h h2)]
theorem s_l32 : ∀ n, n < 32 → ((nI n &&& 31).toBitVec.smod 32).toNat = n := by decide +kernel
theorem ishr_n {a k : Nat} (h : a < 2147483648) (hk : k < 32) : ishrv (a : Int) (k : Int) = ((a / 2 ^ k : Nat) : Int) := by
  unfold ishrv
  rw [o_nat, o_nat, pk_shrN (by omega) _ k (s_l32 k hk), nI_ti (Nat.lt_of_le_of_lt (Nat.div_le_self _ _) h)]
theorem ishl_1 {k : Nat} (hk : k < 31) : ishlv 1 (k : Int) = ((2 ^ k : Nat) : Int) := by
  have h2 : 2 ^ k < 2147483648 := Nat.pow_lt_pow_right (m := k) (n := 31) (by decide) hk
  unfold ishlv
  rw [show (1 : Int) = ((1 : Nat) : Int) from rfl, o_nat, o_nat, pk_shlN _ k (s_l32 k (by omega)) (by omega), Nat.one_mul, nI_ti h2]
/-- the bit k of a, as the classes take it -/
theorem bit_n {a k : Nat} (h : a < 2147483648) (hk : k < 32) : iandv (ishrv (a : Int) (k : Int)) 1 = if a.testBit k then 1 else 0 := by
  rw [ishr_n h hk, show (1 : Int) = ((1 : Nat) : Int) from rfl, iand_n (Nat.lt_of_le_of_lt (Nat.div_le_self _ _) h), Nat.and_one_is_mod, Nat.testBit_eq_decide_div_mod_eq]
  have := Nat.mod_lt (a / 2 ^ k) (by decide : 0 < 2)
  by_cases h1 : a / 2 ^ k % 2 = 1
  · simp [h1]
  · have : a / 2 ^ k % 2 = 0 := by omega
    simp [this]
theorem bit_1 {a k : Nat} (h : a < 2147483648) (hk : k < 32) : iandv (ishrv (a : Int) (k : Int)) 1 = 1 ↔ a.testBit k = true := by
  rw [bit_n h hk]
  cases a.testBit k <;> simp
/-- a without b -/
def nd (a b : Nat) : Nat := a ^^^ (a &&& b)
theorem nd_bit (a b i : Nat) : (nd a b).testBit i = (a.testBit i && !b.testBit i) := by
  unfold nd
  rw [Nat.testBit_xor, Nat.testBit_and]
  cases a.testBit i <;> cases b.testBit i <;> rfl
theorem nd_lt {a b k : Nat} (h : a < 2 ^ k) : nd a b < 2 ^ k := xor_lt h (and_lt h)
theorem ind_n {a b : Nat} (h : a < 2147483648) : iandv (a : Int) (ixorv (b : Int) (-1)) = ((nd a b : Nat) : Int) := by
  unfold iandv ixorv
  rw [Int32.ofInt_toInt, o_nat, o_nat, ← nI_ti (nd_lt (k := 31) h)]
  congr 1
  apply Int32.toBitVec_inj.mp
  show BitVec.ofNat 32 a &&& (BitVec.ofNat 32 b ^^^ (BitVec.ofInt 32 (-1))) = BitVec.ofNat 32 (nd a b)
  apply BitVec.eq_of_getLsbD_eq
  intro i hi
  have e : (BitVec.ofInt 32 (-1)).getLsbD i = true := by
    rw [show BitVec.ofInt 32 (-1) = BitVec.allOnes 32 from by decide, BitVec.getLsbD_allOnes]
    simpa using hi
  rw [BitVec.getLsbD_and, BitVec.getLsbD_xor, e, BitVec.getLsbD_ofNat, BitVec.getLsbD_ofNat, BitVec.getLsbD_ofNat, nd_bit]
  simp [hi]
/-- the sum, the join of the first n -/
def sm (f : Nat → Nat) : Nat → Nat
  | 0 => 0
  | n + 1 => sm f n + f n
def om (f : Nat → Nat) : Nat → Nat
  | 0 => 0
  | n + 1 => om f n ||| f n
theorem sm_le {f : Nat → Nat} {c : Nat} : ∀ {n : Nat}, (∀ i, i < n → f i ≤ c) → sm f n ≤ n * c
  | 0, _ => Nat.zero_le _
  | n + 1, h => by
    have h1 := sm_le (f := f) (c := c) (n := n) (fun i hi => h i (Nat.lt_succ_of_lt hi))
    have h2 := h n (Nat.lt_succ_self n)
    rw [Nat.succ_mul]
    show sm f n + f n ≤ _
    omega
theorem sm_cong {f g : Nat → Nat} : ∀ {n : Nat}, (∀ i, i < n → f i = g i) → sm f n = sm g n
  | 0, _ => rfl
  | n + 1, h => by
    show sm f n + f n = sm g n + g n
    rw [sm_cong (fun i hi => h i (Nat.lt_succ_of_lt hi)), h n (Nat.lt_succ_self n)]
theorem sm_mono {f : Nat → Nat} {m : Nat} : ∀ {n : Nat}, m ≤ n → sm f m ≤ sm f n
  | 0, h => by rw [Nat.le_zero.mp h]; exact Nat.le_refl _
  | n + 1, h => by
    rcases Nat.lt_or_ge n m with q | q
    · rw [show m = n + 1 by omega]; exact Nat.le_refl _
    · exact Nat.le_trans (sm_mono q) (Nat.le_add_right _ _)
theorem sm_add {f g : Nat → Nat} : ∀ {n : Nat}, sm (fun i => f i + g i) n = sm f n + sm g n
  | 0 => rfl
  | n + 1 => by
    show sm (fun i => f i + g i) n + (f n + g n) = (sm f n + f n) + (sm g n + g n)
    rw [sm_add]
    omega
theorem sm_lef {f g : Nat → Nat} : ∀ {n : Nat}, (∀ i, i < n → f i ≤ g i) → sm f n ≤ sm g n
  | 0, _ => Nat.le_refl _
  | n + 1, h => Nat.add_le_add (sm_lef (fun i hi => h i (Nat.lt_succ_of_lt hi))) (h n (Nat.lt_succ_self n))
theorem om_cong {f g : Nat → Nat} : ∀ {n : Nat}, (∀ i, i < n → f i = g i) → om f n = om g n
  | 0, _ => rfl
  | n + 1, h => by
    show om f n ||| f n = om g n ||| g n
    rw [om_cong (fun i hi => h i (Nat.lt_succ_of_lt hi)), h n (Nat.lt_succ_self n)]
theorem om_bit {f : Nat → Nat} {j : Nat} : ∀ {n : Nat}, (om f n).testBit j = true ↔ ∃ i, i < n ∧ (f i).testBit j = true
  | 0 => by
    show (0 : Nat).testBit j = true ↔ _
    rw [Nat.zero_testBit]
    exact ⟨fun h => absurd h (by decide), fun ⟨i, h, _⟩ => absurd h (Nat.not_lt_zero i)⟩
  | n + 1 => by
    show (om f n ||| f n).testBit j = true ↔ _
    rw [Nat.testBit_or, Bool.or_eq_true, om_bit]
    constructor
    · rintro (⟨i, h1, h2⟩ | h)
      · exact ⟨i, Nat.lt_succ_of_lt h1, h2⟩
      · exact ⟨n, Nat.lt_succ_self n, h⟩
    · rintro ⟨i, h1, h2⟩
      rcases Nat.lt_or_ge i n with q | q
      · exact Or.inl ⟨i, q, h2⟩
      · rw [show i = n by omega] at h2
        exact Or.inr h2
theorem om_lt {f : Nat → Nat} {k : Nat} : ∀ {n : Nat}, (∀ i, i < n → f i < 2 ^ k) → om f n < 2 ^ k
  | 0, _ => Nat.two_pow_pos k
  | n + 1, h => or_lt (om_lt (fun i hi => h i (Nat.lt_succ_of_lt hi))) (h n (Nat.lt_succ_self n))
/-- the set of those below n of which p holds -/
def mk (p : Nat → Bool) (n : Nat) : Nat := om (fun i => if p i then 2 ^ i else 0) n
theorem two_pow_bit (i j : Nat) : (2 ^ i).testBit j = decide (i = j) := Nat.testBit_two_pow
theorem mk_bit {p : Nat → Bool} {n j : Nat} : (mk p n).testBit j = (decide (j < n) && p j) := by
  rw [Bool.eq_iff_iff]
  unfold mk
  rw [om_bit]
  simp only [Bool.and_eq_true, decide_eq_true_eq]
  constructor
  · rintro ⟨i, h1, h2⟩
    split at h2
    · rw [two_pow_bit] at h2
      have h2 : i = j := of_decide_eq_true h2
      subst h2
      exact ⟨h1, by assumption⟩
    · rw [Nat.zero_testBit] at h2
      cases h2
  · rintro ⟨h1, h2⟩
    exact ⟨j, h1, by rw [if_pos h2, two_pow_bit]; exact decide_eq_true rfl⟩
theorem mk_lt {p : Nat → Bool} {n k : Nat} (h : n ≤ k) : mk p n < 2 ^ k := by
  refine om_lt fun i hi => ?_
  split
  · exact Nat.pow_lt_pow_right (by decide) (by omega)
  · exact Nat.two_pow_pos k
theorem mk_succ {p : Nat → Bool} {n : Nat} : mk p (n + 1) = mk p n ||| (if p n then 2 ^ n else 0) := rfl
/-- how many of the first n are in the set -/
def pc (s n : Nat) : Nat := sm (fun i => if s.testBit i then 1 else 0) n
theorem pc_le {s n : Nat} : pc s n ≤ n := by
  have := sm_le (f := fun i => if s.testBit i then 1 else 0) (c := 1) (n := n) (fun i _ => by split <;> omega)
  rw [Nat.mul_one] at this
  exact this
theorem bits_lt {s k : Nat} (h : s < 2 ^ k) {i : Nat} (hi : s.testBit i = true) : i < k := by
  rcases Nat.lt_or_ge i k with q | q
  · exact q
  · have h2 : s < 2 ^ i := Nat.lt_of_lt_of_le h (Nat.pow_le_pow_right (by decide) q)
    rw [Nat.testBit_lt_two_pow h2] at hi
    cases hi
theorem lt_bits {s k : Nat} (h : ∀ i, k ≤ i → s.testBit i = false) : s < 2 ^ k := Nat.lt_pow_two_of_testBit s h
/-- a part of -/
def sub (a b : Nat) : Prop := ∀ i, a.testBit i = true → b.testBit i = true
theorem sub_nd {a b : Nat} : nd a b = 0 ↔ sub a b := by
  constructor
  · intro h i hi
    have := nd_bit a b i
    rw [h, Nat.zero_testBit, hi] at this
    cases hb : b.testBit i
    · rw [hb] at this; cases this
    · rfl
  · intro h
    apply Nat.eq_of_testBit_eq
    intro i
    rw [nd_bit, Nat.zero_testBit]
    cases ha : a.testBit i
    · rfl
    · rw [h i ha]; rfl
theorem sub_lt {a b k : Nat} (h : sub a b) (hb : b < 2 ^ k) : a < 2 ^ k := lt_bits fun i hi => by
  cases ha : a.testBit i
  · rfl
  · exact absurd (bits_lt hb (h i ha)) (by omega)
