/-! ===== piles of States ===== -/
theorem k12_at {p : Nat} (h : kd p = 12) : p = 44 ∨ p = 78 := by
  have hp := (kd_in (p := p) (by omega)).2
  exact (by decide +kernel : ∀ p, p < 111 → kd p = 12 → p = 44 ∨ p = 78) p (by omega) h
theorem k2_at {p : Nat} (h : kd p = 2) : p = 43 ∨ p = 77 := by
  have hp := (kd_in (p := p) (by omega)).2
  exact (by decide +kernel : ∀ p, p < 111 → kd p = 2 → p = 43 ∨ p = 77) p (by omega) h
theorem k5_far {p q : Nat} (h : kd p = 5) (h2 : kd q = 5) (hne : p ≠ q) : p + 4 ≤ q ∨ q + 4 ≤ p := by
  have hp := (kd_in (p := p) (by omega)).2
  have hq := (kd_in (p := q) (by omega)).2
  have e : ∀ p, p < 111 → kd p = 5 → p = 35 ∨ p = 39 ∨ p = 45 ∨ p = 49 ∨ p = 53 ∨ p = 57 ∨ p = 61 ∨ p = 65 ∨ p = 69 ∨ p = 73 ∨ p = 79 ∨ p = 83 := by decide +kernel
  have := e p (by omega) h
  have := e q (by omega) h2
  omega
theorem gR_st (M : MM) (p k x q j : Nat) : gR (stR M p k x) q j = if q = p ∧ j = k then x else gR M q j := rfl
theorem gR_same (M : MM) (p k x : Nat) : gR (stR M p k x) p k = x := by rw [gR_st, if_pos ⟨rfl, rfl⟩]
theorem gR_ne (M : MM) {p k q j : Nat} (x : Nat) (h : ¬ (q = p ∧ j = k)) : gR (stR M p k x) q j = gR M q j := by rw [gR_st, if_neg h]
theorem gR_keep {M : MM} {p k x q j : Nat} (hp : kd p = 12) (hq : kd q ≠ 12) : gR (stR M p k x) q j = gR M q j := gR_ne M x fun z => hq (by rw [z.1]; exact hp)
theorem ShX.stR {M : MM} {p k x : Nat} (h : ShX M) (hp : kd p = 12) (hx : kd x = 5) : ShX (stR M p k x) := by
  have e := fun (q j : Nat) (hq : kd q ≠ 12) => gR_keep (M := M) (k := k) (x := x) (j := j) hp hq
  obtain ⟨a1, ⟨a2, a3, a4, a5⟩, a6, a7, a8, a9, a10, a11, a12, a13⟩ := h
  refine ⟨fun j h1 h2 h3 => (e 1 j (by decide)).trans (a1 j h1 h2 h3), ⟨(e 2 0 (by decide)).trans a2, (e 4 0 (by decide)).trans a3, (e 4 1 (by decide)).trans a4, (e 94 1 (by decide)).trans a5⟩, fun j h1 h2 => (e 30 j (by decide)).trans (a6 j h1 h2), fun j h1 h2 => (e 87 j (by decide)).trans (a7 j h1 h2), fun q hq j h1 h2 => (e q j (by omega)).trans (a8 q hq j h1 h2), fun q hq j h1 h2 => (e q j (by omega)).trans (a9 q hq j h1 h2), fun q hq => (e q 0 (by omega)).trans (a10 q hq), by rw [e 1 2 (by decide)]; exact a11, by rw [e 1 3 (by decide)]; exact a12, fun q i hq hi => ?_⟩
  rw [gR_st]
  split
  · exact hx
  · exact a13 q i hq hi
/-- the pile's own places -/
def Ppi (p : Nat) : Nat → Prop := fun q => q = p ∨ (p + 2 ≤ q ∧ q < p + 2 + 4 * ln (p + 1))
def ChP (p : Nat) (M M' : MM) : Prop := M'.1 = M.1 ∧ (∀ q j, q ≠ p + 1 → gR M' q j = gR M q j) ∧ ∀ q j, ¬ Ppi p q → gI M' q j = gI M q j
theorem ChP.rf {p : Nat} {M : MM} : ChP p M M := ⟨rfl, fun _ _ _ => rfl, fun _ _ _ => rfl⟩
theorem ChP.tr {p : Nat} {A B C : MM} (h1 : ChP p A B) (h2 : ChP p B C) : ChP p A C := ⟨h2.1.trans h1.1, fun q j h => (h2.2.1 q j h).trans (h1.2.1 q j h), fun q j h => (h2.2.2 q j h).trans (h1.2.2 q j h)⟩
theorem ChP.ch {p : Nat} {A B : MM} (h : Ch (Ppi p) A B) : ChP p A B := ⟨h.1, fun q j _ => by unfold gR; rw [h.2.1], h.2.2⟩
def PVr (M : MM) (p : Nat) : Prop := (∀ i, i < ln (p + 1) → p + 2 ≤ gR M (p + 1) i ∧ gR M (p + 1) i + 4 ≤ p + 2 + 4 * ln (p + 1)) ∧ ∀ i j, i < ln (p + 1) → j < ln (p + 1) → i ≠ j → gR M (p + 1) i ≠ gR M (p + 1) j
/-- the pile holds n States, f i the i-th -/
def PV (M : MM) (p n : Nat) (f : Nat → WT) : Prop := PVr M p ∧ gI M p 1 = (n : Nat) ∧ n ≤ ln (p + 1) ∧ ∀ i, i < n → SV M (gR M (p + 1) i) (f i)
theorem SV.of {M M' : MM} {p q : Nat} {s : WT} (h : SV M q s) (hp : kd p = 5) (hq : kd q = 5) (hne : p ≠ q) (c : Ch (Pst p) M M') : SV M' q s := by
  have hf := k5_far hp hq hne
  exact ⟨fun b hb => ⟨(c.2.2 _ b (by unfold Pst; omega)).trans (h.1 b hb).1, (c.2.2 _ b (by unfold Pst; omega)).trans (h.1 b hb).2.1, (c.2.2 _ b (by unfold Pst; omega)).trans (h.1 b hb).2.2⟩, (c.2.2 q 0 (by unfold Pst; omega)).trans h.2⟩
theorem ln_pile {p : Nat} (h : kd p = 2) : (p = 43 ∧ ln (p + 1) = 8) ∨ (p = 77 ∧ ln (p + 1) = 2) := by
  rcases k2_at h with rfl | rfl
  · exact Or.inl ⟨rfl, rfl⟩
  · exact Or.inr ⟨rfl, rfl⟩
def psh (n c : Nat) (f : Nat → WT) (s : WT) : Nat → WT := fun i => if n < c then (if i = n then s else f i) else (if i + 1 = c then s else f (i + 1))
def pshn (n c : Nat) : Nat := if n < c then n + 1 else c
section PILE
variable {G : GG} {M : MM} {d : Nat} {Q : Option AV → MM → Prop}
theorem ok_size2 {p : Nat} (hk : kd p = 2) (hS : ShX M) (kk : Q (some (vI (gI M p 1))) M) : Ok G mX2_size d 0 0 [vR p] M Q := Ok_of rfl (Nat.le_of_ble_eq_true rfl) rfl (bX2_size_0 _ hk hS kk)
theorem ok_clear2 {p : Nat} (hk : kd p = 2) (hS : ShX M) (kk : Q none (stI M p 1 0)) : Ok G mX2_clear d 0 0 [vR p] M Q := Ok_of rfl (Nat.le_of_ble_eq_true rfl) rfl (bX2_clear_0 _ hk hS (fun _ e => by rw [e]; exact kk))
theorem ok_forgetOldest {p : Nat} (hk : kd p = 2) (hS : ShX M) (kk : ∀ M', ShX M' → ChP p M M' → gI M' p 1 = ((ln (p + 1) - 1 : Nat) : Int) → (∀ q j, ¬ (q = p ∧ j = 1) → gI M' q j = gI M q j) → (∀ i, i + 1 < ln (p + 1) → gR M' (p + 1) i = gR M (p + 1) (i + 1)) → gR M' (p + 1) (ln (p + 1) - 1) = gR M (p + 1) 0 → Q none M') : Ok G mX2_forgetOldest d 0 0 [vR p] M Q := by
  refine Ok_of rfl (Nat.le_of_ble_eq_true rfl) rfl ?_
  have hl := ln_pile hk
  have hk12 := k2 hk
  refine bX2_forgetOldest_0 _ hk hS ⟨fun _ => ⟨⟨by omega, by omega⟩, ?_⟩, fun h => absurd (by omega) h⟩
  have h05 : kd (gR M (p + 1) 0) = 5 := xst hS hk12 (by omega)
  refine down (fun i => 1 ≤ i → ∀ M', ShX M' → M'.1 = M.1 → (∀ q j, gI M' q j = gI M q j) → (∀ q j, q ≠ p + 1 → gR M' q j = gR M q j) → (∀ k, gR M' (p + 1) k = if k + 1 < i then gR M (p + 1) (k + 1) else gR M (p + 1) k) → Wp G mX2_forgetOldest d 0 0 19 [some (vR p), some (vR (gR M (p + 1) 0)), some (vI (i : Int))] [] M' 0 0 Q) (n := ln (p + 1)) ?_ ?_ 1 (by omega) (Nat.le_refl 1) M hS rfl (fun _ _ => rfl) (fun _ _ _ => rfl) (fun k => by rw [if_neg (by omega)])
  · intro h1 M' hS' m1 m2 m3 m4
    refine bX2_forgetOldest_19 _ hk _ h05 _ hS' ⟨fun _ => ⟨⟨by omega, by omega⟩, ⟨by omega, by omega⟩, ?_⟩, fun h => absurd (Int.le_refl _) h⟩
    have et : ((ln (p + 1) : Int) - 1).toNat = ln (p + 1) - 1 := by omega
    rw [et]
    rintro _ rfl
    refine ⟨hS'.stR hk12 h05, ⟨by omega, by omega⟩, ?_⟩
    rintro _ rfl
    have ei : ((ln (p + 1) : Int) - 1) = ((ln (p + 1) - 1 : Nat) : Int) := by omega
    rw [ei]
    refine kk _ ((hS'.stR hk12 h05).of rfl) ⟨m1, fun q j hq => ?_, fun q j hq => ?_⟩ (gI_same _ _ _ _) (fun q j hq => ?_) (fun i hi => ?_) ?_
    · exact (gR_ne M' (k := ln (p + 1) - 1) (gR M (p + 1) 0) (fun z => hq z.1)).trans (m3 q j hq)
    · exact (gI_ne _ _ (fun z => hq (Or.inl z.1))).trans (m2 q j)
    · exact (gI_ne _ _ hq).trans (m2 q j)
    · refine (gR_ne M' (gR M (p + 1) 0) (by omega)).trans ?_
      rw [m4, if_pos hi]
    · exact gR_same M' _ _ _
  · intro i hi ih h1 M' hS' m1 m2 m3 m4
    refine bX2_forgetOldest_19 _ hk _ h05 _ hS' ⟨fun h => absurd h (by omega), fun _ => ⟨⟨by omega, by omega⟩, ⟨by omega, by omega⟩, ⟨by omega, by omega⟩, ?_⟩⟩
    have et : ((i : Int) - 1).toNat = i - 1 := by omega
    rw [et, Int.toNat_natCast]
    rintro _ rfl
    have hx5 : kd (gR M' (p + 1) i) = 5 := xst hS' hk12 hi
    refine ⟨hS'.stR hk12 hx5, ⟨by omega, by omega⟩, ih (by omega) _ (hS'.stR hk12 hx5) m1 m2 (fun q j hq => (gR_ne M' _ (fun z => hq z.1)).trans (m3 q j hq)) fun k => ?_⟩
    rw [gR_st]
    by_cases hki : k = i - 1
    · rw [if_pos ⟨rfl, hki⟩, if_pos (by omega), m4, if_neg (by omega), show k + 1 = i by omega]
    · rw [if_neg (fun z => hki z.2), m4]
      by_cases hk2 : k + 1 < i
      · rw [if_pos hk2, if_pos (by omega)]
      · rw [if_neg hk2, if_neg (by omega)]
end PILE
