/-! ===== a world: strength, what follows, what is missed; plain facts ===== -/
abbrev WT : Type := Nat → Nat → Nat
/-- counts: w 0 0 things, 1 needs, 2 persons, 3 beasts, 4 exchanges; tables: 1 strengths, 2 kinds, 3 needers, 4 needed, 5 missed things, 6 weights, 7 pulls, 8 taken, 9 given, 10 taken much, 11 given much -/
def WOk (w : WT) : Prop := (w 0 0 ≤ 10 ∧ w 0 1 ≤ 12 ∧ w 0 2 ≤ 8 ∧ w 0 3 ≤ 4 ∧ w 0 4 ≤ 6) ∧ (∀ t, t < w 0 0 → w 1 t ≤ 20 ∧ w 2 t ≤ 3) ∧ (∀ i, i < w 0 1 → w 3 i < w 0 0 ∧ w 4 i < w 0 0) ∧ (∀ i, i < w 0 2 → w 5 i < w 0 0 ∧ 1 ≤ w 6 i ∧ w 6 i ≤ 9) ∧ (∀ b, b < w 0 3 → 1 ≤ w 7 b ∧ w 7 b ≤ 90) ∧ (∀ e, e < w 0 4 → w 8 e < w 0 0 ∧ w 9 e < w 0 0 ∧ w 8 e ≠ w 9 e ∧ (1 ≤ w 10 e ∧ w 10 e ≤ 9) ∧ 1 ≤ w 11 e ∧ w 11 e ≤ 9)
/-- the things of a kind -/
def km (w : WT) (k : Nat) : Nat := mk (fun t => w 2 t == k) (w 0 0)
/-- how many sounds, their strength, the strength of all -/
def sC (w : WT) (s n : Nat) : Nat := sm (fun t => if s.testBit t && w 2 t == 1 then 1 else 0) n
def sL (w : WT) (s n : Nat) : Nat := sm (fun t => if s.testBit t && w 2 t == 1 then w 1 t else 0) n
def sA (w : WT) (s n : Nat) : Nat := sm (fun t => if s.testBit t then w 1 t else 0) n
def str (w : WT) (s : Nat) : Nat := sA w s (w 0 0) + (if 1 < sC w s (w 0 0) then sL w s (w 0 0) else 0)
theorem sC_le {w : WT} {s n : Nat} : sC w s n ≤ n := by
  have := sm_le (f := fun t => if s.testBit t && w 2 t == 1 then 1 else 0) (c := 1) (n := n) (fun i _ => by split <;> omega)
  rw [Nat.mul_one] at this
  exact this
theorem sA_le {w : WT} {s n : Nat} (h : ∀ t, t < n → w 1 t ≤ 20) : sA w s n ≤ n * 20 := sm_le fun i hi => by
  have := h i hi
  show (if s.testBit i then w 1 i else 0) ≤ 20
  split <;> omega
theorem sL_le {w : WT} {s n : Nat} (h : ∀ t, t < n → w 1 t ≤ 20) : sL w s n ≤ n * 20 := sm_le fun i hi => by
  have := h i hi
  show (if s.testBit i && w 2 i == 1 then w 1 i else 0) ≤ 20
  split <;> omega
theorem str_le {w : WT} (h : WOk w) (s : Nat) : str w s ≤ 400 := by
  have h1 := sA_le (w := w) (s := s) (n := w 0 0) (fun t ht => (h.2.1 t ht).1)
  have h2 := sL_le (w := w) (s := s) (n := w 0 0) (fun t ht => (h.2.1 t ht).1)
  have := h.1.1
  unfold str
  split <;> omega
theorem str_0 (w : WT) : str w 0 = 0 := by
  have e1 : sA w 0 (w 0 0) = 0 := by
    have := sm_le (f := fun t => if (0 : Nat).testBit t then w 1 t else 0) (c := 0) (n := w 0 0) (fun i _ => by simp)
    simpa [sA] using this
  have e2 : sC w 0 (w 0 0) = 0 := by
    have := sm_le (f := fun t => if (0 : Nat).testBit t && w 2 t == 1 then 1 else 0) (c := 0) (n := w 0 0) (fun i _ => by simp)
    simpa [sC] using this
  unfold str
  rw [e1, e2]
  rfl
/-- one step of what follows -/
def stp (w : WT) (s : Nat) : Nat := s ||| om (fun i => if s.testBit (w 4 i) then 2 ^ (w 3 i) else 0) (w 0 1)
def itr (w : WT) : Nat → Nat → Nat
  | 0, s => s
  | k + 1, s => stp w (itr w k s)
def fol (w : WT) (s : Nat) : Nat := itr w (w 0 0) s
theorem stp_bit {w : WT} {s j : Nat} : (stp w s).testBit j = true ↔ s.testBit j = true ∨ ∃ i, i < w 0 1 ∧ s.testBit (w 4 i) = true ∧ w 3 i = j := by
  unfold stp
  rw [Nat.testBit_or, Bool.or_eq_true, om_bit]
  refine or_congr Iff.rfl ⟨fun ⟨i, h1, h2⟩ => ?_, fun ⟨i, h1, h2, h3⟩ => ⟨i, h1, ?_⟩⟩
  · split at h2
    · rw [two_pow_bit] at h2
      exact ⟨i, h1, by assumption, of_decide_eq_true h2⟩
    · rw [Nat.zero_testBit] at h2
      cases h2
  · rw [if_pos h2, two_pow_bit, h3]
    exact decide_eq_true rfl
theorem sub_rf {a : Nat} : sub a a := fun _ h => h
theorem sub_tr {a b c : Nat} (h1 : sub a b) (h2 : sub b c) : sub a c := fun i h => h2 i (h1 i h)
theorem sub_eq {a b : Nat} (h1 : sub a b) (h2 : sub b a) : a = b := by
  apply Nat.eq_of_testBit_eq
  intro i
  rw [Bool.eq_iff_iff]
  exact ⟨h1 i, h2 i⟩
theorem sub_or {a b c : Nat} : sub (a ||| b) c ↔ sub a c ∧ sub b c := by
  unfold sub
  simp only [Nat.testBit_or, Bool.or_eq_true]
  exact ⟨fun h => ⟨fun i hi => h i (Or.inl hi), fun i hi => h i (Or.inr hi)⟩, fun h i hi => hi.elim (h.1 i) (h.2 i)⟩
theorem sub_l {a b : Nat} : sub a (a ||| b) := fun i h => by rw [Nat.testBit_or, h]; rfl
theorem sub_r {a b : Nat} : sub b (a ||| b) := fun i h => by rw [Nat.testBit_or, h, Bool.or_true]
theorem stp_sub {w : WT} {s : Nat} : sub s (stp w s) := fun _ h => stp_bit.mpr (Or.inl h)
theorem stp_mono {w : WT} {a b : Nat} (h : sub a b) : sub (stp w a) (stp w b) := fun j hj => by
  rcases stp_bit.mp hj with q | ⟨i, h1, h2, h3⟩
  · exact stp_bit.mpr (Or.inl (h j q))
  · exact stp_bit.mpr (Or.inr ⟨i, h1, h _ h2, h3⟩)
theorem stp_or {w : WT} {a b : Nat} : stp w (a ||| b) = stp w a ||| stp w b := by
  apply Nat.eq_of_testBit_eq
  intro j
  rw [Bool.eq_iff_iff, Nat.testBit_or, Bool.or_eq_true, stp_bit, stp_bit, stp_bit]
  simp only [Nat.testBit_or, Bool.or_eq_true]
  constructor
  · rintro ((h | h) | ⟨i, h1, h2 | h2, h3⟩)
    · exact Or.inl (Or.inl h)
    · exact Or.inr (Or.inl h)
    · exact Or.inl (Or.inr ⟨i, h1, h2, h3⟩)
    · exact Or.inr (Or.inr ⟨i, h1, h2, h3⟩)
  · rintro ((h | ⟨i, h1, h2, h3⟩) | (h | ⟨i, h1, h2, h3⟩))
    · exact Or.inl (Or.inl h)
    · exact Or.inr ⟨i, h1, Or.inl h2, h3⟩
    · exact Or.inl (Or.inr h)
    · exact Or.inr ⟨i, h1, Or.inr h2, h3⟩
theorem itr_or {w : WT} {a b : Nat} : ∀ k, itr w k (a ||| b) = itr w k a ||| itr w k b
  | 0 => rfl
  | k + 1 => by
    show stp w (itr w k (a ||| b)) = stp w (itr w k a) ||| stp w (itr w k b)
    rw [itr_or k, stp_or]
theorem fol_or {w : WT} {a b : Nat} : fol w (a ||| b) = fol w a ||| fol w b := itr_or _
theorem itr_sub {w : WT} {s : Nat} : ∀ k, sub s (itr w k s)
  | 0 => sub_rf
  | k + 1 => sub_tr (itr_sub k) stp_sub
theorem itr_in {w : WT} {s F : Nat} (h : sub s F) (hF : stp w F = F) : ∀ k, sub (itr w k s) F
  | 0 => h
  | k + 1 => by
    have := stp_mono (w := w) (itr_in h hF k)
    rw [hF] at this
    exact this
theorem stp_lt {w : WT} (h : WOk w) {s : Nat} (hs : s < 2 ^ w 0 0) : stp w s < 2 ^ w 0 0 := lt_bits fun j hj => by
  cases hb : (stp w s).testBit j
  · rfl
  · rcases stp_bit.mp hb with q | ⟨i, h1, h2, h3⟩
    · exact absurd (bits_lt hs q) (by omega)
    · have := (h.2.2.1 i h1).1
      omega
theorem itr_lt {w : WT} (h : WOk w) {s : Nat} (hs : s < 2 ^ w 0 0) : ∀ k, itr w k s < 2 ^ w 0 0
  | 0 => hs
  | k + 1 => stp_lt h (itr_lt h hs k)
theorem fol_lt {w : WT} (h : WOk w) {s : Nat} (hs : s < 2 ^ w 0 0) : fol w s < 2 ^ w 0 0 := itr_lt h hs _
theorem pc_sub {a b : Nat} (h : sub a b) {n : Nat} : pc a n ≤ pc b n := sm_lef fun i _ => by
  show (if a.testBit i then 1 else 0) ≤ (if b.testBit i then 1 else 0)
  cases ha : a.testBit i
  · simp
  · rw [h i ha]
    simp
theorem pc_more {a b n : Nat} (h : sub a b) (hb : b < 2 ^ n) (hne : b ≠ a) : pc a n + 1 ≤ pc b n := by
  have hx : ∃ i, b.testBit i = true ∧ a.testBit i = false := by
    apply Classical.byContradiction
    intro hn
    apply hne
    refine sub_eq (fun i hi => ?_) h
    cases ha : a.testBit i
    · exact absurd ⟨i, hi, ha⟩ hn
    · rfl
  obtain ⟨i, h1, h2⟩ := hx
  have hi := bits_lt hb h1
  have key : ∀ n, i < n → pc a n + 1 ≤ pc b n := by
    intro n
    induction n with
    | zero => intro h; omega
    | succ n ih =>
      intro hlt
      show pc a n + (if a.testBit n then 1 else 0) + 1 ≤ pc b n + (if b.testBit n then 1 else 0)
      rcases Nat.lt_or_ge i n with q | q
      · have h3 := ih q
        have : (if a.testBit n then 1 else 0) ≤ (if b.testBit n then 1 else 0) := by
          cases ha : a.testBit n
          · simp
          · rw [h n ha]; simp
        omega
      · have e : n = i := by omega
        subst e
        have := pc_sub h (n := n)
        rw [h1, h2]
        simp
        omega
  exact key n hi
theorem pc_full {a n : Nat} (h : n ≤ pc a n) : ∀ i, i < n → a.testBit i = true := by
  have key : ∀ n, n ≤ pc a n → ∀ i, i < n → a.testBit i = true := by
    intro n
    induction n with
    | zero => intro _ i hi; omega
    | succ n ih =>
      intro h i hi
      have h2 := pc_le (s := a) (n := n)
      have e : pc a (n + 1) = pc a n + (if a.testBit n then 1 else 0) := rfl
      rw [e] at h
      have h3 : a.testBit n = true := by
        cases hb : a.testBit n
        · rw [hb] at h
          simp at h
          omega
        · rfl
      rw [h3] at h
      simp at h
      rcases Nat.lt_or_ge i n with q | q
      · exact ih h i q
      · rw [show i = n by omega]; exact h3
  exact key n h
theorem fol_fix {w : WT} (h : WOk w) {s : Nat} (hs : s < 2 ^ w 0 0) : stp w (fol w s) = fol w s := by
  have key : ∀ k, stp w (itr w k s) = itr w k s ∨ k ≤ pc (itr w k s) (w 0 0) := by
    intro k
    induction k with
    | zero => exact Or.inr (Nat.zero_le _)
    | succ k ih =>
      by_cases e : stp w (itr w k s) = itr w k s
      · left
        show stp w (stp w (itr w k s)) = stp w (itr w k s)
        rw [e, e]
      · right
        rcases ih with q | q
        · exact absurd q e
        · have := pc_more (a := itr w k s) (b := stp w (itr w k s)) (n := w 0 0) stp_sub (stp_lt h (itr_lt h hs k)) e
          show k + 1 ≤ pc (stp w (itr w k s)) (w 0 0)
          omega
  rcases key (w 0 0) with q | q
  · exact q
  · have hf := pc_full q
    refine sub_eq (fun i hi => ?_) stp_sub
    exact hf i (bits_lt (stp_lt h (fol_lt h hs)) hi)
theorem fol_sub {w : WT} {s : Nat} : sub s (fol w s) := itr_sub _
theorem fol_in {w : WT} {s F : Nat} (h : sub s F) (hF : stp w F = F) : sub (fol w s) F := itr_in h hF _
theorem fol_0 {w : WT} : fol w 0 = 0 := by
  have e : stp w 0 = 0 := by
    refine sub_eq (fun j hj => ?_) stp_sub
    rcases stp_bit.mp hj with q | ⟨i, _, h2, _⟩
    · exact q
    · rw [Nat.zero_testBit] at h2
      cases h2
  refine sub_eq (fol_in sub_rf e) fol_sub
/-- who misses something, how much -/
def mis (w : WT) (f : Nat) : Nat := mk (fun i => f.testBit (w 5 i)) (w 0 2)
def lsF (w : WT) (f : Nat) : Nat := sm (fun i => if f.testBit (w 5 i) then w 6 i else 0) (w 0 2)
def los (w : WT) (s : Nat) : Nat := lsF w (fol w s)
theorem lsF_le {w : WT} (h : WOk w) (f : Nat) : lsF w f ≤ 72 := by
  have h1 := sm_le (f := fun i => if f.testBit (w 5 i) then w 6 i else 0) (c := 9) (n := w 0 2) (fun i hi => by
    have := (h.2.2.2.1 i hi).2.2
    show (if f.testBit (w 5 i) then w 6 i else 0) ≤ 9
    split <;> omega)
  have := h.1.2.2.1
  unfold lsF
  omega
theorem los_le {w : WT} (h : WOk w) (s : Nat) : los w s ≤ 72 := lsF_le h _
theorem mis_lt {w : WT} (h : WOk w) (f : Nat) : mis w f < 256 := mk_lt (k := 8) h.1.2.2.1
theorem km_lt {w : WT} (h : WOk w) (k : Nat) : km w k < 1024 := mk_lt (k := 10) h.1.1
theorem set_lt {w : WT} (h : WOk w) {s : Nat} (hs : s < 2 ^ w 0 0) : s < 1024 := Nat.lt_of_lt_of_le hs (Nat.pow_le_pow_right (by decide) h.1.1)
theorem pow_le {w : WT} (h : WOk w) : 2 ^ w 0 0 ≤ 1024 := Nat.pow_le_pow_right (n := 2) (by decide) h.1.1
/-- the lowest thing of a set -/
def lowb (s : Nat) : Nat := if s.testBit 0 then 1 else if s.testBit 1 then 2 else if s.testBit 2 then 4 else if s.testBit 3 then 8 else if s.testBit 4 then 16 else if s.testBit 5 then 32 else if s.testBit 6 then 64 else if s.testBit 7 then 128 else if s.testBit 8 then 256 else if s.testBit 9 then 512 else 0
theorem low_all : ∀ s : Nat, s < 1024 → iandv (s : Int) (-(s : Int)) = (lowb s : Int) ∧ iandv (s : Int) ((s : Int) - 1) = ((s ^^^ lowb s : Nat) : Int) ∧ lowb s ||| (s ^^^ lowb s) = s ∧ lowb s ≤ s ∧ s ^^^ lowb s ≤ s ∧ (s ≠ 0 → lowb s ≠ 0 ∧ s ^^^ lowb s < s ∧ s &&& lowb s = lowb s) ∧ (pc s 10 ≠ 1 → s ≠ 0 → lowb s < s) := by decide +kernel
