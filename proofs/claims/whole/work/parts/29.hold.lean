/-! ===== holding several beasts out of one set ===== -/
theorem nd_sub {a b : Nat} : sub (nd a b) a := fun i h => by
  rw [nd_bit] at h
  cases ha : a.testBit i
  · rw [ha] at h; cases h
  · rfl
theorem str_add {w : WT} {s r : Nat} (h : sub r s) : str w r + str w (nd s r) ≤ str w s := by
  have key : ∀ i, (s.testBit i = (r.testBit i || (nd s r).testBit i)) ∧ (r.testBit i && (nd s r).testBit i) = false := by
    intro i
    rw [nd_bit]
    have := h i
    cases hr : r.testBit i <;> cases hs : s.testBit i <;> simp_all
  have eA : sA w s (w 0 0) = sA w r (w 0 0) + sA w (nd s r) (w 0 0) := by
    unfold sA
    rw [← sm_add]
    refine sm_cong fun i _ => ?_
    obtain ⟨k1, k2⟩ := key i
    rw [k1]
    cases hr : r.testBit i <;> cases hs : (nd s r).testBit i <;> simp_all
  have eC : sC w s (w 0 0) = sC w r (w 0 0) + sC w (nd s r) (w 0 0) := by
    unfold sC
    rw [← sm_add]
    refine sm_cong fun i _ => ?_
    obtain ⟨k1, k2⟩ := key i
    rw [k1]
    cases hr : r.testBit i <;> cases hs : (nd s r).testBit i <;> simp_all
  have eL : sL w s (w 0 0) = sL w r (w 0 0) + sL w (nd s r) (w 0 0) := by
    unfold sL
    rw [← sm_add]
    refine sm_cong fun i _ => ?_
    obtain ⟨k1, k2⟩ := key i
    rw [k1]
    cases hr : r.testBit i <;> cases hs : (nd s r).testBit i <;> simp_all
  unfold str
  rw [eA, eC, eL]
  by_cases h1 : 1 < sC w r (w 0 0) <;> by_cases h2 : 1 < sC w (nd s r) (w 0 0) <;> by_cases h3 : 1 < sC w r (w 0 0) + sC w (nd s r) (w 0 0) <;> simp only [h1, h2, h3, if_true, if_false] <;> omega
theorem str_mono {w : WT} {s r : Nat} (h : sub r s) : str w r ≤ str w s := by
  have := str_add (w := w) h
  omega
theorem bit0_eq (a : Nat) : a.testBit 0 = decide (a % 2 = 1) := Nat.testBit_zero a
theorem sub_half {a b : Nat} (h : sub a b) : sub (a / 2) (b / 2) := fun i hi => by
  rw [Nat.testBit_div_two] at hi ⊢
  exact h _ hi
theorem sub_mod {a b : Nat} (h : sub a b) : a % 2 ≤ b % 2 := by
  have := h 0
  rw [bit0_eq, bit0_eq] at this
  have h2 : a % 2 = 1 → b % 2 = 1 := fun z => of_decide_eq_true (this (decide_eq_true z))
  omega
theorem and_half (a b : Nat) : (a &&& b) / 2 = a / 2 &&& b / 2 := Nat.and_div_two
theorem and_mod2 (a b : Nat) : (a &&& b) % 2 = if a % 2 = 1 ∧ b % 2 = 1 then 1 else 0 := by
  have h := Nat.testBit_and a b 0
  rw [bit0_eq, bit0_eq, bit0_eq] at h
  have h' : decide ((a &&& b) % 2 = 1) = true ↔ a % 2 = 1 ∧ b % 2 = 1 := by
    rw [h, Bool.and_eq_true, decide_eq_true_iff, decide_eq_true_iff]
  rw [decide_eq_true_iff] at h'
  split <;> omega
theorem sub_and {a b : Nat} (h : sub a b) : a &&& b = a := by
  apply Nat.eq_of_testBit_eq
  intro i
  rw [Nat.testBit_and]
  cases ha : a.testBit i
  · rfl
  · rw [h i ha]; rfl
/-- the next smaller part of s below r is (r - 1) & s -/
theorem next_sub : ∀ (r : Nat) {x s : Nat}, sub x s → sub r s → x < r → x ≤ (r - 1) &&& s := by
  intro r
  induction r using Nat.strongRecOn with
  | _ r ih =>
    intro x s hx hr hlt
    have e1 : (r - 1) &&& s = 2 * (((r - 1) &&& s) / 2) + ((r - 1) &&& s) % 2 := by omega
    rw [e1, and_half, and_mod2]
    have hm := sub_mod hx
    have hm2 := sub_mod hr
    have hh := sub_half hx
    have hh2 := sub_half hr
    by_cases hb : r % 2 = 1
    · have e2 : (r - 1) / 2 = r / 2 := by omega
      rw [e2, sub_and hh2]
      omega
    · have e2 : (r - 1) / 2 = r / 2 - 1 := by omega
      have i1 := ih (r / 2) (by omega) hh hh2 (by omega)
      rw [e2]
      have e3 : (r - 1) % 2 = 1 := by omega
      rw [e3]
      by_cases hs : s % 2 = 1
      · rw [if_pos ⟨rfl, hs⟩]; omega
      · rw [if_neg (fun z => hs z.2)]; omega
theorem dsub (P : Nat → Prop) {s : Nat} (h0 : P 0) (step : ∀ r, r ≠ 0 → sub r s → P ((r - 1) &&& s) → P r) : P s := by
  have key : ∀ r, sub r s → P r := by
    intro r
    induction r using Nat.strongRecOn with
    | _ r ih =>
      intro hr
      by_cases h : r = 0
      · rw [h]; exact h0
      · have l1 : (r - 1) &&& s ≤ r - 1 := Nat.and_le_left
        refine step r h hr (ih _ (by omega) fun i hi => ?_)
        rw [Nat.testBit_and] at hi
        cases hs : s.testBit i
        · rw [hs, Bool.and_false] at hi; cases hi
        · rfl
  exact key s sub_rf
theorem nd_lt_of {s r : Nat} (h : sub r s) (h0 : r ≠ 0) : nd s r < s := by
  have h1 := sub_le (nd_sub (a := s) (b := r))
  rcases Nat.lt_or_ge (nd s r) s with q | q
  · exact q
  · have e : nd s r = s := by omega
    refine absurd (Nat.eq_of_testBit_eq fun i => ?_) h0
    rw [Nat.zero_testBit]
    cases hr : r.testBit i
    · rfl
    · have h2 := h i hr
      have h3 := nd_bit s r i
      rw [e, h2, hr] at h3
      cases h3
theorem nd_xor {s r : Nat} (h : sub r s) : s ^^^ r = nd s r := by
  apply Nat.eq_of_testBit_eq
  intro i
  rw [Nat.testBit_xor, nd_bit]
  have := h i
  cases hr : r.testBit i <;> cases hs : s.testBit i <;> simp_all
def hld (w : WT) : List Nat → Nat → Bool
  | [], _ => true
  | p :: ps, s => (List.range (s + 1)).any fun r => decide (r ≠ 0) && decide (nd r s = 0) && decide (p ≤ str w r) && hld w ps (nd s r)
def okr (w : WT) (p : Nat) (ps : List Nat) (s r : Nat) : Bool := decide (r ≠ 0) && decide (nd r s = 0) && decide (p ≤ str w r) && hld w ps (nd s r)
theorem okr_t {w : WT} {p s r : Nat} {ps : List Nat} : okr w p ps s r = true ↔ r ≠ 0 ∧ sub r s ∧ p ≤ str w r ∧ hld w ps (nd s r) = true := by
  unfold okr
  simp [and_assoc, sub_nd]
theorem hld_t {w : WT} {p s : Nat} {ps : List Nat} : hld w (p :: ps) s = true ↔ ∃ r, okr w p ps s r = true := by
  show (List.range (s + 1)).any (okr w p ps s) = true ↔ _
  rw [List.any_eq_true]
  refine ⟨fun ⟨r, _, h⟩ => ⟨r, h⟩, fun ⟨r, h⟩ => ⟨r, ?_, h⟩⟩
  rw [List.mem_range]
  have := sub_le (okr_t.mp h).2.1
  omega
theorem hld_mono {w : WT} : ∀ {ps : List Nat} {a b : Nat}, sub a b → hld w ps a = true → hld w ps b = true := by
  intro ps
  induction ps with
  | nil => intro _ _ _ _; rfl
  | cons p ps ih =>
    intro a b h ha
    obtain ⟨r, hr⟩ := hld_t.mp ha
    obtain ⟨h1, h2, h3, h4⟩ := okr_t.mp hr
    refine hld_t.mpr ⟨r, okr_t.mpr ⟨h1, sub_tr h2 h, h3, ih (fun i hi => ?_) h4⟩⟩
    rw [nd_bit] at hi ⊢
    have := h i
    cases hA : a.testBit i
    · rw [hA] at hi; cases hi
    · rw [hA] at hi; rw [this hA]; exact hi
theorem hld_sum {w : WT} : ∀ {ps : List Nat} {s : Nat}, hld w ps s = true → ps.sum ≤ str w s := by
  intro ps
  induction ps with
  | nil => intro s _; exact Nat.zero_le _
  | cons p ps ih =>
    intro s h
    obtain ⟨r, hr⟩ := hld_t.mp h
    obtain ⟨h1, h2, h3, h4⟩ := okr_t.mp hr
    have := ih h4
    have := str_add (w := w) h2
    rw [List.sum_cons]
    omega
/-- the lowest ribbon for the first beast that leaves enough for the others; 0: none -/
def lor (w : WT) (p : Nat) (ps : List Nat) (s : Nat) : Nat := ((List.range (s + 1)).find? (okr w p ps s)).getD 0
theorem lor_is {w : WT} {p s v : Nat} {ps : List Nat} (h : (v = 0 ∧ ∀ x, okr w p ps s x = false) ∨ (okr w p ps s v = true ∧ ∀ x, x < v → okr w p ps s x = false)) : lor w p ps s = v := by
  unfold lor
  rcases h with ⟨rfl, h⟩ | ⟨h, h2⟩
  · rw [List.find?_eq_none.mpr (fun x _ => by rw [h x]; decide)]
    rfl
  · have hv := sub_le (okr_t.mp h).2.1
    have key : ∀ n, v < n → (List.range n).find? (okr w p ps s) = some v := by
      intro n
      induction n with
      | zero => intro z; omega
      | succ n ih =>
        intro z
        rw [List.range_succ, List.find?_append]
        rcases Nat.lt_or_ge v n with q | q
        · rw [ih q]; rfl
        · have e : v = n := by omega
          rw [List.find?_eq_none.mpr (fun x hx => by rw [List.mem_range] at hx; rw [h2 x (by omega)]; decide)]
          rw [← e]
          show (List.find? (okr w p ps s) [v]) = some v
          rw [List.find?_cons, h]
    rw [key (s + 1) (by omega)]
    rfl
theorem lor_0 {w : WT} {p s : Nat} {ps : List Nat} : lor w p ps s ≠ 0 ↔ hld w (p :: ps) s = true := by
  constructor
  · intro h
    unfold lor at h
    cases hf : (List.range (s + 1)).find? (okr w p ps s) with
    | none => rw [hf] at h; exact absurd rfl h
    | some v => exact hld_t.mpr ⟨v, List.find?_some hf⟩
  · intro h h2
    obtain ⟨r, hr⟩ := hld_t.mp h
    unfold lor at h2
    cases hf : (List.range (s + 1)).find? (okr w p ps s) with
    | none =>
      have := List.find?_eq_none.mp hf r (by rw [List.mem_range]; have := sub_le (okr_t.mp hr).2.1; omega)
      exact this hr
    | some v =>
      rw [hf] at h2
      exact (okr_t.mp (List.find?_some hf)).1 h2
theorem lor_ok {w : WT} {p s : Nat} {ps : List Nat} (h : lor w p ps s ≠ 0) : okr w p ps s (lor w p ps s) = true := by
  unfold lor at h ⊢
  cases hf : (List.range (s + 1)).find? (okr w p ps s) with
  | none => rw [hf] at h; exact absurd rfl h
  | some v => exact List.find?_some hf
