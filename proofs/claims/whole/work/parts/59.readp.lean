/-! ===== a text read: figures, numbers, items, the world that it tells ===== -/
/-- the sign at i; -1: none -/
def sg (t : Nat → Int) (L i : Nat) : Int := if i < L then t i else -1
theorem sg_lt {t : Nat → Int} {L i : Nat} (h : i < L) : sg t L i = t i := if_pos h
theorem sg_ge {t : Nat → Int} {L i : Nat} (h : ¬ i < L) : sg t L i = -1 := if_neg h
theorem sg_in {t : Nat → Int} {L i : Nat} (h : 0 ≤ sg t L i) : i < L := by
  rcases Nat.lt_or_ge i L with q | q
  · exact q
  · rw [sg_ge (by omega)] at h
    omega
/-- how many figures stand at p (two at most), what they make -/
def rdn (t : Nat → Int) (L p : Nat) : Nat := if 48 ≤ sg t L p ∧ sg t L p ≤ 57 then (if 48 ≤ sg t L (p + 1) ∧ sg t L (p + 1) ≤ 57 then 2 else 1) else 0
def rdv (t : Nat → Int) (L p : Nat) : Nat := if 48 ≤ sg t L p ∧ sg t L p ≤ 57 then (if 48 ≤ sg t L (p + 1) ∧ sg t L (p + 1) ≤ 57 then 10 * (sg t L p - 48).toNat + (sg t L (p + 1) - 48).toNat else (sg t L p - 48).toNat) else 0
theorem rd_0 {t : Nat → Int} {L p : Nat} (h : ¬ (48 ≤ sg t L p ∧ sg t L p ≤ 57)) : rdn t L p = 0 ∧ rdv t L p = 0 := ⟨if_neg h, if_neg h⟩
theorem rd_1 {t : Nat → Int} {L p : Nat} (h : 48 ≤ sg t L p ∧ sg t L p ≤ 57) (h2 : ¬ (48 ≤ sg t L (p + 1) ∧ sg t L (p + 1) ≤ 57)) : rdn t L p = 1 ∧ ((rdv t L p : Nat) : Int) = sg t L p - 48 := by
  unfold rdn rdv
  rw [if_pos h, if_pos h, if_neg h2, if_neg h2]
  exact ⟨rfl, by omega⟩
theorem rd_2 {t : Nat → Int} {L p : Nat} (h : 48 ≤ sg t L p ∧ sg t L p ≤ 57) (h2 : 48 ≤ sg t L (p + 1) ∧ sg t L (p + 1) ≤ 57) : rdn t L p = 2 ∧ ((rdv t L p : Nat) : Int) = 10 * (sg t L p - 48) + (sg t L (p + 1) - 48) := by
  unfold rdn rdv
  rw [if_pos h, if_pos h, if_pos h2, if_pos h2]
  exact ⟨rfl, by omega⟩
theorem rd_le {t : Nat → Int} {L p : Nat} : rdn t L p ≤ 2 ∧ rdv t L p ≤ 99 ∧ (p + rdn t L p ≤ L ∨ rdn t L p = 0) := by
  by_cases h : 48 ≤ sg t L p ∧ sg t L p ≤ 57
  · have hi := sg_in (t := t) (L := L) (i := p) (by omega)
    by_cases h2 : 48 ≤ sg t L (p + 1) ∧ sg t L (p + 1) ≤ 57
    · have hi2 := sg_in (t := t) (L := L) (i := p + 1) (by omega)
      have := rd_2 h h2
      omega
    · have := rd_1 h h2
      omega
  · have := rd_0 h
    omega
def nb (c : Int) : Nat := if c = 98 then 1 else if c = 112 ∨ c = 116 ∨ c = 121 then 2 else if c = 120 then 4 else 0
theorem nb_le {c : Int} : nb c ≤ 4 := by
  unfold nb
  split
  · decide
  · split
    · decide
    · split <;> decide
theorem nb_c {c : Int} (h : nb c ≠ 0) : c = 98 ∨ c = 112 ∨ c = 116 ∨ c = 120 ∨ c = 121 := by
  unfold nb at h
  by_cases h1 : c = 98
  · exact Or.inl h1
  · rw [if_neg h1] at h
    by_cases h2 : c = 112 ∨ c = 116 ∨ c = 121
    · omega
    · rw [if_neg h2] at h
      by_cases h3 : c = 120
      · omega
      · rw [if_neg h3] at h
        exact absurd rfl h
theorem nb_0 {c : Int} (h : ¬ c = 98 ∧ ¬ c = 112 ∧ ¬ c = 116 ∧ ¬ c = 120 ∧ ¬ c = 121) : nb c = 0 := by
  unfold nb
  rw [if_neg h.1, if_neg (by omega), if_neg (by omega)]
/-- where the i-th number of the item at a stands -/
def ps (t : Nat → Int) (L a : Nat) : Nat → Nat
  | 0 => a + 1
  | i + 1 => ps t L a i + rdn t L (ps t L a i) + 1
theorem ps_s {t : Nat → Int} {L a i : Nat} : ps t L a (i + 1) = ps t L a i + rdn t L (ps t L a i) + 1 := rfl
theorem ps_gt {t : Nat → Int} {L a : Nat} : ∀ i, a < ps t L a i
  | 0 => Nat.lt_succ_self a
  | i + 1 => by
    have := ps_gt (t := t) (L := L) (a := a) i
    rw [ps_s]
    omega
def xs (t : Nat → Int) (L a i : Nat) : Nat := rdv t L (ps t L a i)
/-- the i-th number of an item of n is so -/
def nOk (t : Nat → Int) (L a n i : Nat) : Prop := 0 < rdn t L (ps t L a i) ∧ sg t L (ps t L a i + rdn t L (ps t L a i)) = if i + 1 < n then 44 else 59
def sy (t : Nat → Int) (L a n : Nat) : Prop := ∀ i, i < n → nOk t L a n i
theorem nOk_in {t : Nat → Int} {L a n i : Nat} (h : nOk t L a n i) : ps t L a (i + 1) ≤ L := by
  have h2 := h.2
  have := sg_in (t := t) (L := L) (i := ps t L a i + rdn t L (ps t L a i)) (by rw [h2]; split <;> omega)
  rw [ps_s]
  omega
def okI (w : WT) (c : Int) (x : Nat → Nat) : Prop := if c = 98 then w 0 3 < 4 ∧ 1 ≤ x 0 ∧ x 0 ≤ 90 else if c = 112 then w 0 2 < 8 ∧ x 0 < w 0 0 ∧ 1 ≤ x 1 ∧ x 1 ≤ 9 else if c = 116 then w 0 0 < 10 ∧ x 0 ≤ 20 ∧ x 1 ≤ 3 else if c = 120 then w 0 4 < 6 ∧ (x 0 < w 0 0 ∧ x 1 < w 0 0 ∧ x 0 ≠ x 1) ∧ (1 ≤ x 2 ∧ x 2 ≤ 9) ∧ 1 ≤ x 3 ∧ x 3 ≤ 9 else if c = 121 then w 0 1 < 12 ∧ x 0 < w 0 0 ∧ x 1 < w 0 0 ∧ x 0 ≠ x 1 else False
theorem okI_b {w : WT} {x : Nat → Nat} : okI w 98 x ↔ w 0 3 < 4 ∧ 1 ≤ x 0 ∧ x 0 ≤ 90 := Iff.rfl
theorem okI_p {w : WT} {x : Nat → Nat} : okI w 112 x ↔ w 0 2 < 8 ∧ x 0 < w 0 0 ∧ 1 ≤ x 1 ∧ x 1 ≤ 9 := Iff.rfl
theorem okI_t {w : WT} {x : Nat → Nat} : okI w 116 x ↔ w 0 0 < 10 ∧ x 0 ≤ 20 ∧ x 1 ≤ 3 := Iff.rfl
theorem okI_x {w : WT} {x : Nat → Nat} : okI w 120 x ↔ w 0 4 < 6 ∧ (x 0 < w 0 0 ∧ x 1 < w 0 0 ∧ x 0 ≠ x 1) ∧ (1 ≤ x 2 ∧ x 2 ≤ 9) ∧ 1 ≤ x 3 ∧ x 3 ≤ 9 := Iff.rfl
theorem okI_y {w : WT} {x : Nat → Nat} : okI w 121 x ↔ w 0 1 < 12 ∧ x 0 < w 0 0 ∧ x 1 < w 0 0 ∧ x 0 ≠ x 1 := Iff.rfl
def up (w : WT) (j i x : Nat) : WT := fun j' i' => if j' = j ∧ i' = i then x else w j' i'
theorem up_at {w : WT} {j i x j' i' : Nat} : up w j i x j' i' = if j' = j ∧ i' = i then x else w j' i' := rfl
theorem up_same {w : WT} {j i x : Nat} : up w j i x j i = x := if_pos ⟨rfl, rfl⟩
theorem up_ne {w : WT} {j i x j' i' : Nat} (h : ¬ (j' = j ∧ i' = i)) : up w j i x j' i' = w j' i' := if_neg h
def adB (w : WT) (x : Nat → Nat) : WT := up (up w 7 (w 0 3) (x 0)) 0 3 (w 0 3 + 1)
def adP (w : WT) (x : Nat → Nat) : WT := up (up (up w 5 (w 0 2) (x 0)) 6 (w 0 2) (x 1)) 0 2 (w 0 2 + 1)
def adT (w : WT) (x : Nat → Nat) : WT := up (up (up w 1 (w 0 0) (x 0)) 2 (w 0 0) (x 1)) 0 0 (w 0 0 + 1)
def adX (w : WT) (x : Nat → Nat) : WT := up (up (up (up (up w 8 (w 0 4) (x 0)) 9 (w 0 4) (x 1)) 10 (w 0 4) (x 2)) 11 (w 0 4) (x 3)) 0 4 (w 0 4 + 1)
def adY (w : WT) (x : Nat → Nat) : WT := up (up (up w 3 (w 0 1) (x 0)) 4 (w 0 1) (x 1)) 0 1 (w 0 1 + 1)
def adI (w : WT) (c : Int) (x : Nat → Nat) : WT := if c = 98 then adB w x else if c = 112 then adP w x else if c = 116 then adT w x else if c = 120 then adX w x else if c = 121 then adY w x else w
theorem WOk.adB {w : WT} {x : Nat → Nat} (h : WOk w) (k : okI w 98 x) : WOk (adB w x) := by
  obtain ⟨⟨c0, c1, c2, c3, c4⟩, a1, a2, a3, a4, a5⟩ := h
  obtain ⟨k1, k2, k3⟩ := okI_b.mp k
  refine ⟨⟨c0, c1, c2, k1, c4⟩, a1, a2, a3, fun b hb => ?_, a5⟩
  have hb : b < w 0 3 + 1 := hb
  show 1 ≤ up w 7 (w 0 3) (x 0) 7 b ∧ up w 7 (w 0 3) (x 0) 7 b ≤ 90
  rw [up_at]
  split
  · exact ⟨k2, k3⟩
  · exact a4 b (by omega)
theorem WOk.adP {w : WT} {x : Nat → Nat} (h : WOk w) (k : okI w 112 x) : WOk (adP w x) := by
  obtain ⟨⟨c0, c1, c2, c3, c4⟩, a1, a2, a3, a4, a5⟩ := h
  obtain ⟨k1, k2, k3, k4⟩ := okI_p.mp k
  refine ⟨⟨c0, c1, k1, c3, c4⟩, a1, a2, fun i hi => ?_, a4, a5⟩
  have hi : i < w 0 2 + 1 := hi
  show up w 5 (w 0 2) (x 0) 5 i < w 0 0 ∧ 1 ≤ up (up w 5 (w 0 2) (x 0)) 6 (w 0 2) (x 1) 6 i ∧ up (up w 5 (w 0 2) (x 0)) 6 (w 0 2) (x 1) 6 i ≤ 9
  rw [up_at, up_at]
  by_cases e : i = w 0 2
  · rw [if_pos ⟨rfl, e⟩, if_pos ⟨rfl, e⟩]
    exact ⟨k2, k3, k4⟩
  · rw [if_neg (fun z => e z.2), if_neg (fun z => e z.2)]
    exact a3 i (by omega)
theorem WOk.adT {w : WT} {x : Nat → Nat} (h : WOk w) (k : okI w 116 x) : WOk (adT w x) := by
  obtain ⟨⟨c0, c1, c2, c3, c4⟩, a1, a2, a3, a4, a5⟩ := h
  obtain ⟨k1, k2, k3⟩ := okI_t.mp k
  refine ⟨⟨k1, c1, c2, c3, c4⟩, fun i hi => ?_, fun i hi => ⟨Nat.lt_succ_of_lt (a2 i hi).1, Nat.lt_succ_of_lt (a2 i hi).2⟩, fun i hi => ⟨Nat.lt_succ_of_lt (a3 i hi).1, (a3 i hi).2⟩, a4, fun i hi => ⟨Nat.lt_succ_of_lt (a5 i hi).1, Nat.lt_succ_of_lt (a5 i hi).2.1, (a5 i hi).2.2⟩⟩
  have hi : i < w 0 0 + 1 := hi
  show up w 1 (w 0 0) (x 0) 1 i ≤ 20 ∧ up (up w 1 (w 0 0) (x 0)) 2 (w 0 0) (x 1) 2 i ≤ 3
  rw [up_at, up_at]
  by_cases e : i = w 0 0
  · rw [if_pos ⟨rfl, e⟩, if_pos ⟨rfl, e⟩]
    exact ⟨k2, k3⟩
  · rw [if_neg (fun z => e z.2), if_neg (fun z => e z.2)]
    exact a1 i (by omega)
theorem WOk.adX {w : WT} {x : Nat → Nat} (h : WOk w) (k : okI w 120 x) : WOk (adX w x) := by
  obtain ⟨⟨c0, c1, c2, c3, c4⟩, a1, a2, a3, a4, a5⟩ := h
  obtain ⟨k1, ⟨k2, k3, k4⟩, k5, k6⟩ := okI_x.mp k
  refine ⟨⟨c0, c1, c2, c3, k1⟩, a1, a2, a3, a4, fun i hi => ?_⟩
  have hi : i < w 0 4 + 1 := hi
  show up w 8 (w 0 4) (x 0) 8 i < w 0 0 ∧ up (up w 8 (w 0 4) (x 0)) 9 (w 0 4) (x 1) 9 i < w 0 0 ∧ up w 8 (w 0 4) (x 0) 8 i ≠ up (up w 8 (w 0 4) (x 0)) 9 (w 0 4) (x 1) 9 i ∧ (1 ≤ up (up (up w 8 (w 0 4) (x 0)) 9 (w 0 4) (x 1)) 10 (w 0 4) (x 2) 10 i ∧ up (up (up w 8 (w 0 4) (x 0)) 9 (w 0 4) (x 1)) 10 (w 0 4) (x 2) 10 i ≤ 9) ∧ 1 ≤ up (up (up (up w 8 (w 0 4) (x 0)) 9 (w 0 4) (x 1)) 10 (w 0 4) (x 2)) 11 (w 0 4) (x 3) 11 i ∧ up (up (up (up w 8 (w 0 4) (x 0)) 9 (w 0 4) (x 1)) 10 (w 0 4) (x 2)) 11 (w 0 4) (x 3) 11 i ≤ 9
  by_cases e : i = w 0 4
  · rw [e, up_same, up_same, up_same, up_same]
    exact ⟨k2, k3, k4, k5, k6⟩
  · have g : ∀ (W : WT) (j x : Nat), up W j (w 0 4) x j i = W j i := fun W j x => up_ne fun z => e z.2
    have g2 : ∀ (W : WT) (j j' x : Nat), j' ≠ j → up W j (w 0 4) x j' i = W j' i := fun W j j' x hj => up_ne fun z => hj z.1
    rw [g, g, g, g, g2 _ _ _ _ (by decide), g2 _ _ _ _ (by decide), g2 _ _ _ _ (by decide), g2 _ _ _ _ (by decide), g2 _ _ _ _ (by decide), g2 _ _ _ _ (by decide)]
    exact a5 i (by omega)
theorem WOk.adY {w : WT} {x : Nat → Nat} (h : WOk w) (k : okI w 121 x) : WOk (adY w x) := by
  obtain ⟨⟨c0, c1, c2, c3, c4⟩, a1, a2, a3, a4, a5⟩ := h
  obtain ⟨k1, k2, k3, k4⟩ := okI_y.mp k
  refine ⟨⟨c0, k1, c2, c3, c4⟩, a1, fun i hi => ?_, a3, a4, a5⟩
  have hi : i < w 0 1 + 1 := hi
  show up w 3 (w 0 1) (x 0) 3 i < w 0 0 ∧ up (up w 3 (w 0 1) (x 0)) 4 (w 0 1) (x 1) 4 i < w 0 0
  rw [up_at, up_at]
  by_cases e : i = w 0 1
  · rw [if_pos ⟨rfl, e⟩, if_pos ⟨rfl, e⟩]
    exact ⟨k2, k3⟩
  · rw [if_neg (fun z => e z.2), if_neg (fun z => e z.2)]
    exact a2 i (by omega)
theorem adI_eq (w : WT) (c : Int) (x : Nat → Nat) : adI w c x = if c = 98 then adB w x else if c = 112 then adP w x else if c = 116 then adT w x else if c = 120 then adX w x else if c = 121 then adY w x else w := rfl
theorem WOk.adI {w : WT} {c : Int} {x : Nat → Nat} (h : WOk w) (k : okI w c x) : WOk (adI w c x) := by
  unfold okI at k
  rw [adI_eq]
  split
  · rw [if_pos (by assumption)] at k; exact h.adB k
  rw [if_neg (by assumption)] at k
  split
  · rw [if_pos (by assumption)] at k; exact h.adP k
  rw [if_neg (by assumption)] at k
  split
  · rw [if_pos (by assumption)] at k; exact h.adT k
  rw [if_neg (by assumption)] at k
  split
  · rw [if_pos (by assumption)] at k; exact h.adX k
  rw [if_neg (by assumption)] at k
  split
  · rw [if_pos (by assumption)] at k; exact h.adY k
  exact h
/-- the item at a is so, in a text that has told w -/
def itm (t : Nat → Int) (L a : Nat) (w : WT) : Prop := nb (sg t L a) ≠ 0 ∧ sy t L a (nb (sg t L a)) ∧ okI w (sg t L a) (xs t L a)
def nx (t : Nat → Int) (L a : Nat) : Nat := ps t L a (nb (sg t L a))
theorem nx_gt {t : Nat → Int} {L a : Nat} : a < nx t L a := ps_gt _
theorem nx_le {t : Nat → Int} {L a : Nat} {w : WT} (h : itm t L a w) : nx t L a ≤ L := by
  unfold nx
  obtain ⟨n, hn⟩ : ∃ n, nb (sg t L a) = n + 1 := ⟨nb (sg t L a) - 1, by have := h.1; omega⟩
  have := h.2.1 n (by omega)
  rw [hn] at this ⊢
  exact nOk_in this
abbrev nw (t : Nat → Int) (L a : Nat) (w : WT) : WT := adI w (sg t L a) (xs t L a)
/-- the text read from a on, with f items at most: where the first that is not so begins, the world told ahead of it -/
noncomputable def rdW (t : Nat → Int) (L : Nat) : Nat → Nat → WT → Option Nat × WT
  | 0, _, w => (none, w)
  | f + 1, a, w => if L ≤ a then (none, w) else @ite _ (itm t L a w) (Classical.propDecidable _) (rdW t L f (nx t L a) (nw t L a w)) (some a, w)
theorem rdW_e {t : Nat → Int} {L f a : Nat} {w : WT} (h : L ≤ a) : rdW t L f a w = (none, w) := by
  cases f with
  | zero => rfl
  | succ f => exact if_pos h
theorem rdW_y {t : Nat → Int} {L f a : Nat} {w : WT} (h : a < L) (hi : itm t L a w) : rdW t L (f + 1) a w = rdW t L f (nx t L a) (nw t L a w) := by
  show (if L ≤ a then (none, w) else _) = _
  rw [if_neg (by omega), if_pos hi]
theorem rdW_n {t : Nat → Int} {L f a : Nat} {w : WT} (h : a < L) (hi : ¬ itm t L a w) : rdW t L (f + 1) a w = (some a, w) := by
  show (if L ≤ a then (none, w) else _) = _
  rw [if_neg (by omega), if_neg hi]
theorem rdW_ok {t : Nat → Int} {L : Nat} : ∀ {f a : Nat} {w : WT}, WOk w → WOk (rdW t L f a w).2
  | 0, _, _, h => h
  | f + 1, a, w, h => by
    rcases Nat.lt_or_ge a L with q | q
    · by_cases hi : itm t L a w
      · rw [rdW_y q hi]
        exact rdW_ok (h.adI hi.2.2)
      · rw [rdW_n q hi]
        exact h
    · rw [rdW_e q]
      exact h
def w00 : WT := fun _ _ => 0
theorem w00_ok : WOk w00 := ⟨⟨by decide, by decide, by decide, by decide, by decide⟩, fun i hi => absurd hi (Nat.not_lt_zero i), fun i hi => absurd hi (Nat.not_lt_zero i), fun i hi => absurd hi (Nat.not_lt_zero i), fun i hi => absurd hi (Nat.not_lt_zero i), fun i hi => absurd hi (Nat.not_lt_zero i)⟩
noncomputable def rdA (t : Nat → Int) (L : Nat) : Option Nat × WT := rdW t L 200 0 w00
noncomputable def aFault (t : Nat → Int) (L : Nat) : Int := match (rdA t L).1 with
  | none => -4
  | some a => a
/-- the text is one that is laid -/
def lays (t : Nat → Int) (L : Nat) : Prop := (rdA t L).1 = none ∧ 1 ≤ (rdA t L).2 0 0 ∧ 1 ≤ (rdA t L).2 0 3
