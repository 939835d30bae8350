/-! ===== the first text: what it tells ===== -/
def aP (k : Nat) : Nat := [0, 5, 10, 15, 20, 25, 30, 35, 40, 45, 50, 55, 59, 63, 72, 81].getD k 0
def wS : Nat → WT
  | 0 => w00
  | k + 1 => nw t00 81 (aP k) (wS k)
theorem itS : ∀ k, k < 15 → (nb (sg t00 81 (aP k)) ≠ 0 ∧ (∀ i, i < nb (sg t00 81 (aP k)) → (0 < rdn t00 81 (ps t00 81 (aP k) i) ∧ sg t00 81 (ps t00 81 (aP k) i + rdn t00 81 (ps t00 81 (aP k) i)) = if i + 1 < nb (sg t00 81 (aP k)) then 44 else 59)) ∧ (if sg t00 81 (aP k) = 98 then wS k 0 3 < 4 ∧ 1 ≤ xs t00 81 (aP k) 0 ∧ xs t00 81 (aP k) 0 ≤ 90 else if sg t00 81 (aP k) = 112 then wS k 0 2 < 8 ∧ xs t00 81 (aP k) 0 < wS k 0 0 ∧ 1 ≤ xs t00 81 (aP k) 1 ∧ xs t00 81 (aP k) 1 ≤ 9 else if sg t00 81 (aP k) = 116 then wS k 0 0 < 10 ∧ xs t00 81 (aP k) 0 ≤ 20 ∧ xs t00 81 (aP k) 1 ≤ 3 else if sg t00 81 (aP k) = 120 then wS k 0 4 < 6 ∧ (xs t00 81 (aP k) 0 < wS k 0 0 ∧ xs t00 81 (aP k) 1 < wS k 0 0 ∧ xs t00 81 (aP k) 0 ≠ xs t00 81 (aP k) 1) ∧ (1 ≤ xs t00 81 (aP k) 2 ∧ xs t00 81 (aP k) 2 ≤ 9) ∧ 1 ≤ xs t00 81 (aP k) 3 ∧ xs t00 81 (aP k) 3 ≤ 9 else if sg t00 81 (aP k) = 121 then wS k 0 1 < 12 ∧ xs t00 81 (aP k) 0 < wS k 0 0 ∧ xs t00 81 (aP k) 1 < wS k 0 0 ∧ xs t00 81 (aP k) 0 ≠ xs t00 81 (aP k) 1 else False)) ∧ nx t00 81 (aP k) = aP (k + 1) ∧ aP k < 81 := by decide +kernel
theorem itS' {k : Nat} (h : k < 15) : itm t00 81 (aP k) (wS k) := (itS k h).1
theorem rdS : ∀ k, k ≤ 15 → rdW t00 81 (200 - k) (aP k) (wS k) = rdA t00 81 := by
  intro k
  induction k with
  | zero => intro _; rfl
  | succ k ih =>
    intro hk
    have h := ih (by omega)
    obtain ⟨h1, h2, h3⟩ := itS k (by omega)
    rw [show 200 - k = (200 - (k + 1)) + 1 by omega, rdW_y h3 (itS' (by omega)), h2] at h
    exact h
theorem rdA_0 : rdA t00 81 = (none, wS 15) := by
  rw [← rdS 15 (Nat.le_refl _)]
  exact rdW_e (by decide)
theorem wS_ok : ∀ k, k ≤ 15 → WOk (wS k) := by
  intro k
  induction k with
  | zero => intro _; exact w00_ok
  | succ k ih => intro hk; exact (ih (by omega)).adI (itS' (by omega)).2.2
theorem wS_n : wS 15 0 0 = 5 ∧ wS 15 0 3 = 2 := by decide +kernel
theorem lays_0 : lays t00 81 := by
  unfold lays
  rw [rdA_0]
  refine ⟨rfl, ?_, ?_⟩
  · show 1 ≤ wS 15 0 0
    rw [wS_n.1]; decide
  · show 1 ≤ wS 15 0 3
    rw [wS_n.2]; decide
/-- the numbers of the first text's items -/
theorem cS : ∀ k, k < 15 → sg t00 81 (aP k) = [116, 116, 116, 116, 116, 121, 121, 112, 112, 112, 112, 98, 98, 120, 120].getD k 0 ∧ (∀ i, i < nb (sg t00 81 (aP k)) → xs t00 81 (aP k) i = ([[5, 1], [4, 1], [6, 0], [9, 2], [7, 3], [2, 0], [4, 2], [0, 3], [2, 5], [3, 1], [4, 2], [12], [16], [0, 2, 1, 2], [2, 0, 2, 1]].getD k ([] : List Nat)).getD i 0) := by decide +kernel
