/-! ===== where the references point: the developers' class, the reference ===== -/
theorem k5 {p : Nat} (h : kd p = 5) : (kd (p + 1) = 10 ∧ ln (p + 1) = 4) ∧ (kd (p + 2) = 10 ∧ ln (p + 2) = 4) ∧ (kd (p + 3) = 10 ∧ ln (p + 3) = 4) := by
  have hp := (kd_in (p := p) (by omega)).2
  exact (by decide +kernel : ∀ p, p < 111 → kd p = 5 → (kd (p + 1) = 10 ∧ ln (p + 1) = 4) ∧ (kd (p + 2) = 10 ∧ ln (p + 2) = 4) ∧ (kd (p + 3) = 10 ∧ ln (p + 3) = 4)) p (by omega) h
theorem k7 {p : Nat} (h : kd p = 7) : ∀ j, 8 ≤ j → j < 19 → kd (p + (j - 7)) = 10 ∧ ln (p + (j - 7)) = [10, 10, 12, 12, 8, 8, 4, 6, 6, 6, 6].getD (j - 8) 0 := by
  have hp := (kd_in (p := p) (by omega)).2
  intro j h1 h2
  exact (by decide +kernel : ∀ p, p < 111 → kd p = 7 → ∀ j, j < 19 → 8 ≤ j → kd (p + (j - 7)) = 10 ∧ ln (p + (j - 7)) = [10, 10, 12, 12, 8, 8, 4, 6, 6, 6, 6].getD (j - 8) 0) p (by omega) h j h2 h1
theorem k2 {p : Nat} (h : kd p = 2) : kd (p + 1) = 12 := by
  have hp := (kd_in (p := p) (by omega)).2
  exact (by decide +kernel : ∀ p, p < 111 → kd p = 2 → kd (p + 1) = 12) p (by omega) h
/-- the developers' objects stand where they were made -/
def ShX (M : MM) : Prop :=
  (∀ j, j < 11 → j ≠ 2 → j ≠ 3 → gR M 1 j = [2, 4, 0, 0, 30, 35, 39, 43, 77, 87, 94].getD j 0) ∧
  (gR M 2 0 = 3 ∧ gR M 4 0 = 2 ∧ gR M 4 1 = 5 ∧ gR M 94 1 = 95) ∧
  (∀ j, 1 ≤ j → j < 5 → gR M 30 j = 30 + j) ∧
  (∀ j, 4 ≤ j → j < 11 → gR M 87 j = [30, 88, 89, 90, 91, 92, 93].getD (j - 4) 0) ∧
  (∀ p, kd p = 5 → ∀ j, 1 ≤ j → j < 4 → gR M p j = p + j) ∧
  (∀ p, kd p = 7 → ∀ j, 8 ≤ j → j < 19 → gR M p j = p + (j - 7)) ∧
  (∀ p, kd p = 2 → gR M p 0 = p + 1) ∧
  kd (gR M 1 2) = 7 ∧ kd (gR M 1 3) = 7 ∧
  (∀ p i, kd p = 12 → i < ln p → kd (gR M p i) = 5)
theorem x1 {M : MM} (h : ShX M) (j : Nat) {r : Nat} (h1 : j < 11) (h2 : j ≠ 2) (h3 : j ≠ 3) (hr : [2, 4, 0, 0, 30, 35, 39, 43, 77, 87, 94].getD j 0 = r) : gR M 1 j = r := (h.1 j h1 h2 h3).trans hr
theorem x30 {M : MM} (h : ShX M) (j : Nat) {r : Nat} (h1 : 1 ≤ j) (h2 : j < 5) (hr : 30 + j = r) : gR M 30 j = r := (h.2.2.1 j h1 h2).trans hr
theorem x87 {M : MM} (h : ShX M) (j : Nat) {r : Nat} (h1 : 4 ≤ j) (h2 : j < 11) (hr : [30, 88, 89, 90, 91, 92, 93].getD (j - 4) 0 = r) : gR M 87 j = r := (h.2.2.2.1 j h1 h2).trans hr
theorem x5 {M : MM} (h : ShX M) {p : Nat} (hp : kd p = 5) (j : Nat) (h1 : 1 ≤ j) (h2 : j < 4) : gR M p j = p + j := h.2.2.2.2.1 p hp j h1 h2
theorem x7 {M : MM} (h : ShX M) {p : Nat} (hp : kd p = 7) (j : Nat) (h1 : 8 ≤ j) (h2 : j < 19) {r : Nat} (hr : p + (j - 7) = r) : gR M p j = r := (h.2.2.2.2.2.1 p hp j h1 h2).trans hr
theorem k7' {p : Nat} (h : kd p = 7) (j : Nat) (h1 : 8 ≤ j) (h2 : j < 19) {r : Nat} (hr : p + (j - 7) = r) : kd r = 10 := by rw [← hr]; exact (k7 h j h1 h2).1
theorem l7' {p : Nat} (h : kd p = 7) (j : Nat) (h1 : 8 ≤ j) (h2 : j < 19) {r n : Nat} (hr : p + (j - 7) = r) (hn : [10, 10, 12, 12, 8, 8, 4, 6, 6, 6, 6].getD (j - 8) 0 = n) : ln r = n := by rw [← hr]; exact (k7 h j h1 h2).2.trans hn
theorem x2 {M : MM} (h : ShX M) {p : Nat} (hp : kd p = 2) : gR M p 0 = p + 1 := h.2.2.2.2.2.2.1 p hp
theorem xlaid {M : MM} (h : ShX M) : kd (gR M 1 2) = 7 := h.2.2.2.2.2.2.2.1
theorem xdraft {M : MM} (h : ShX M) : kd (gR M 1 3) = 7 := h.2.2.2.2.2.2.2.2.1
theorem xst {M : MM} (h : ShX M) {p i : Nat} (hp : kd p = 12) (hi : i < ln p) : kd (gR M p i) = 5 := h.2.2.2.2.2.2.2.2.2 p i hp hi
/-- the same by the index as it is loaded -/
theorem xst' {M : MM} (h : ShX M) {p : Nat} {i : Int} (hp : kd p = 12) (h0 : 0 ≤ i) (hi : i < ln p) : kd (gR M p i.toNat) = 5 := xst h hp (by omega)
def ShM (M : MM) : Prop := gR M 96 0 = 97 ∧ gR M 96 3 = 98 ∧ gR M 96 6 = 99 ∧ gR M 96 7 = 100 ∧ gR M 96 8 = 101 ∧ gR M 96 11 = 102 ∧ gR M 96 12 = 103 ∧ gR M 96 14 = 104 ∧ gR M 96 16 = 105 ∧ gR M 96 18 = 106 ∧ gR M 96 24 = 107 ∧ gR M 96 25 = 108 ∧ gR M 96 26 = 109 ∧ gR M 96 27 = 110
theorem sm0 {M : MM} (h : ShM M) : gR M 96 0 = 97 := h.1
theorem sm3 {M : MM} (h : ShM M) : gR M 96 3 = 98 := h.2.1
theorem sm6 {M : MM} (h : ShM M) : gR M 96 6 = 99 := h.2.2.1
theorem sm7 {M : MM} (h : ShM M) : gR M 96 7 = 100 := h.2.2.2.1
theorem sm8 {M : MM} (h : ShM M) : gR M 96 8 = 101 := h.2.2.2.2.1
theorem sm11 {M : MM} (h : ShM M) : gR M 96 11 = 102 := h.2.2.2.2.2.1
theorem sm12 {M : MM} (h : ShM M) : gR M 96 12 = 103 := h.2.2.2.2.2.2.1
theorem sm14 {M : MM} (h : ShM M) : gR M 96 14 = 104 := h.2.2.2.2.2.2.2.1
theorem sm16 {M : MM} (h : ShM M) : gR M 96 16 = 105 := h.2.2.2.2.2.2.2.2.1
theorem sm18 {M : MM} (h : ShM M) : gR M 96 18 = 106 := h.2.2.2.2.2.2.2.2.2.1
theorem sm24 {M : MM} (h : ShM M) : gR M 96 24 = 107 := h.2.2.2.2.2.2.2.2.2.2.1
theorem sm25 {M : MM} (h : ShM M) : gR M 96 25 = 108 := h.2.2.2.2.2.2.2.2.2.2.2.1
theorem sm26 {M : MM} (h : ShM M) : gR M 96 26 = 109 := h.2.2.2.2.2.2.2.2.2.2.2.2.1
theorem sm27 {M : MM} (h : ShM M) : gR M 96 27 = 110 := h.2.2.2.2.2.2.2.2.2.2.2.2.2
theorem lcmp_lt {x y : Int} : lcmpv x y < 0 ↔ x < y := by unfold lcmpv; split <;> (try split) <;> omega
theorem lcmp_ge {x y : Int} : 0 ≤ lcmpv x y ↔ y ≤ x := by unfold lcmpv; split <;> (try split) <;> omega
theorem lcmp_gt {x y : Int} : 0 < lcmpv x y ↔ y < x := by unfold lcmpv; split <;> (try split) <;> omega
theorem lcmp_le {x y : Int} : lcmpv x y ≤ 0 ↔ x ≤ y := by unfold lcmpv; split <;> (try split) <;> omega
theorem lcmp_eq {x y : Int} : lcmpv x y = 0 ↔ x = y := by unfold lcmpv; split <;> (try split) <;> omega
theorem lcmp_ne {x y : Int} : lcmpv x y ≠ 0 ↔ x ≠ y := not_congr lcmp_eq
theorem kne {p c : Nat} (h : kd p = c) (hc : c ≤ 12) : p ≠ 0 := fun e => by have := (kd_in (p := p) (by omega)).1; omega
theorem kle {p c : Nat} (h : kd p = c) (hc : c ≤ 12) : p < 700 := by have := (kd_in (p := p) (by omega)).2; omega
theorem kn2 {p : Nat} (h : kd p = 2) : p ≠ 0 := kne h (by decide)
theorem kl2 {p : Nat} (h : kd p = 2) : p < 700 := kle h (by decide)
theorem kn5 {p : Nat} (h : kd p = 5) : p ≠ 0 := kne h (by decide)
theorem kl5 {p : Nat} (h : kd p = 5) : p < 700 := kle h (by decide)
theorem kn7 {p : Nat} (h : kd p = 7) : p ≠ 0 := kne h (by decide)
theorem kl7 {p : Nat} (h : kd p = 7) : p < 700 := kle h (by decide)
theorem kn10 {p : Nat} (h : kd p = 10) : p ≠ 0 := kne h (by decide)
theorem kl10 {p : Nat} (h : kd p = 10) : p < 700 := kle h (by decide)
theorem kn11 {p : Nat} (h : kd p = 11) : p ≠ 0 := kne h (by decide)
theorem kl11 {p : Nat} (h : kd p = 11) : p < 700 := kle h (by decide)
theorem kn12 {p : Nat} (h : kd p = 12) : p ≠ 0 := kne h (by decide)
theorem kl12 {p : Nat} (h : kd p = 12) : p < 700 := kle h (by decide)
