/-! ===== the text: write, wipe, count of both sides ===== -/
def TXv (M : MM) (L : Nat) (t : Nat → Int) : Prop := gI M 2 1 = (L : Nat) ∧ L ≤ 200 ∧ ∀ i, i < L → gI M 3 i = t i
def TMv (M : MM) (L : Nat) (t : Nat → Int) : Prop := gI M 96 4 = (L : Nat) ∧ L ≤ 200 ∧ ∀ i, i < L → gI M 98 i = t i
def apT (L : Nat) (t : Nat → Int) (a : Int) : Nat → Int := fun i => if i = L then a else t i
def aCount (w s : WT) (n k L : Nat) (a : Int) : Int := if a = 0 then w 0 0 else if a = 1 then w 0 1 else if a = 2 then w 0 2 else if a = 3 then w 0 3 else if a = 4 then w 0 4 else if a = 5 then s 3 0 else if a = 6 then n else if a = 7 then k else if a = 8 then L else -1
section TEXT
variable {G : GG} {M : MM} {d : Nat} {Q : Option AV → MM → Prop} {w s : WT} {n k L : Nat} {f g : Nat → WT} {t : Nat → Int}
theorem ok8_write {a : Int} (hd : 1 ≤ d) (hS : ShX M) (hT : TXv M L t) (k0 : ¬ (32 ≤ a ∧ a ≤ 126) → Q (some (vI (-1))) M) (k3 : (32 ≤ a ∧ a ≤ 126) → L = 200 → Q (some (vI (-3))) M)
    (k1 : (32 ≤ a ∧ a ≤ 126) → L < 200 → ∀ M', Ch (fun q => q = 2 ∨ q = 3) M M' → TXv M' (L + 1) (apT L t a) → Q (some (vI (L + 1 : Nat))) M') : Ok G mX8_write d 0 0 [vR 1, vI a] M Q := by
  obtain ⟨d, rfl⟩ : ∃ e, d = e + 1 := ⟨d - 1, by omega⟩
  refine Ok_of rfl (Nat.le_of_ble_eq_true rfl) rfl ?_
  obtain ⟨t1, t2, t3⟩ := hT
  refine bX8_write_0 _ hS ⟨fun z => k0 (by omega), fun z => ⟨fun z2 => ok_append hS t1 t2 (fun e => ⟨_, rfl, hS, fun _ => k3 (by omega) e, fun z => absurd rfl z⟩) fun hl => ⟨_, rfl, hS.of rfl, fun z => absurd z (by decide), fun _ => ok_size1 (hS.of rfl) ⟨_, rfl, hS.of rfl, ?_⟩⟩, fun z2 => k0 (by omega)⟩⟩
  rw [gI_same]
  refine k1 (by omega) hl _ ((Ch.rf.st (Or.inr rfl)).st (Or.inl rfl)) ⟨gI_same _ _ _ _, by omega, fun i hi => ?_⟩
  unfold apT
  rw [gI_ne _ _ (by omega), gI_st]
  by_cases e : i = L
  · rw [if_pos ⟨rfl, e⟩, if_pos e]
  · rw [if_neg (fun z => e z.2), if_neg e]; exact t3 i (by omega)
theorem ok8_wipe (hd : 1 ≤ d) (hS : ShX M) (hT : TXv M L t) (k1 : ∀ M', Ch (fun q => q = 2 ∨ q = 3) M M' → TXv M' 0 t → Q (some (vI (L : Nat))) M') : Ok G mX8_wipe d 0 0 [vR 1] M Q := by
  obtain ⟨d, rfl⟩ : ∃ e, d = e + 1 := ⟨d - 1, by omega⟩
  refine Ok_of rfl (Nat.le_of_ble_eq_true rfl) rfl ?_
  refine bX8_wipe_0 hS (ok_size1 hS ⟨_, rfl, hS, ok_clear1 hS ⟨rfl, hS.of rfl, ?_⟩⟩)
  rw [hT.1]
  exact k1 _ (Ch.rf.st (Or.inl rfl)) ⟨gI_same _ _ _ _, Nat.zero_le _, fun i hi => absurd hi (Nat.not_lt_zero i)⟩
theorem ok9_write {a : Int} (hd : 1 ≤ d) (hS : ShM M) (hT : TMv M L t) (k0 : ¬ (32 ≤ a ∧ a ≤ 126) → Q (some (vI (-1))) M) (k3 : (32 ≤ a ∧ a ≤ 126) → L = 200 → Q (some (vI (-3))) M)
    (k1 : (32 ≤ a ∧ a ≤ 126) → L < 200 → TMv (stI (stI M 98 L a) 96 4 (L + 1 : Nat)) (L + 1) (apT L t a) → Q (some (vI (L + 1 : Nat))) (stI (stI M 98 L a) 96 4 (L + 1 : Nat))) : Ok G mX9_write d 0 0 [vR 96, vI a] M Q := by
  obtain ⟨d, rfl⟩ : ∃ e, d = e + 1 := ⟨d - 1, by omega⟩
  refine Ok_of rfl (Nat.le_of_ble_eq_true rfl) rfl ?_
  obtain ⟨t1, t2, t3⟩ := hT
  refine bX9_write_0 _ hS (ok_in ⟨_, rfl, hS, ?_⟩)
  rcases Classical.em (¬ (32 ≤ a ∧ a ≤ 126)) with hc | hc
  · rw [if_neg hc]
    exact ⟨fun z => absurd rfl z, fun _ => k0 hc⟩
  have hc : 32 ≤ a ∧ a ≤ 126 := by omega
  rw [if_pos hc, t1]
  refine ⟨fun _ => ⟨fun z => ⟨⟨by omega, by omega⟩, ?_⟩, fun z => k3 hc (by omega)⟩, fun z => absurd z (by decide)⟩
  rw [Int.toNat_natCast]
  rintro _ rfl
  have e4 : gI (stI M 98 L a) 96 4 = (L : Nat) := (gI_ne _ _ (by omega)).trans t1
  rw [e4]
  refine ⟨⟨by omega, by omega⟩, ?_⟩
  rintro _ rfl
  rw [gI_same]
  refine k1 hc (by omega) ⟨gI_same _ _ _ _, by omega, fun i hi => ?_⟩
  unfold apT
  rw [gI_ne _ _ (by omega), gI_st]
  by_cases e : i = L
  · rw [if_pos ⟨rfl, e⟩, if_pos e]
  · rw [if_neg (fun z => e z.2), if_neg e]; exact t3 i (by omega)
theorem ok8_count {a : Int} (hd : 1 ≤ d) (h : XF M w s n f k g) (hT : TXv M L t) (kk : Q (some (vI (aCount w s n k L a))) M) : Ok G mX8_count d 0 0 [vR 1, vI a] M Q := by
  obtain ⟨d, rfl⟩ : ∃ e, d = e + 1 := ⟨d - 1, by omega⟩
  refine Ok_of rfl (Nat.le_of_ble_eq_true rfl) rfl ?_
  have c := h.1.2.1.1
  unfold aCount at kk
  refine bX8_count_0 _ h.1.1 ⟨fun e => ?_, fun e => ?_, fun e => ?_, fun e => ?_, fun e => ?_, fun e => ?_, fun e => ?_, fun e => ?_, fun e => ?_, fun e => ?_⟩
  · subst e; rw [c 0 (by decide)]; exact kk
  · subst e; rw [c 1 (by decide)]; exact kk
  · subst e; rw [c 2 (by decide)]; exact kk
  · subst e; rw [c 3 (by decide)]; exact kk
  · subst e; rw [c 4 (by decide)]; exact kk
  · subst e; rw [h.1.2.2.2.2]; exact kk
  · subst e
    refine ok_size2 rfl h.1.1 ⟨_, rfl, h.1.1, ?_⟩
    rw [h.2.1.2.1]; exact kk
  · subst e
    refine ok_size2 rfl h.1.1 ⟨_, rfl, h.1.1, ?_⟩
    rw [h.2.2.2.1]; exact kk
  · subst e
    refine ok_size1 h.1.1 ⟨_, rfl, h.1.1, ?_⟩
    rw [hT.1]; exact kk
  · rwa [if_neg (by omega), if_neg (by omega), if_neg (by omega), if_neg (by omega), if_neg (by omega), if_neg (by omega), if_neg (by omega), if_neg (by omega), if_neg (by omega)] at kk
theorem ok9_count {a : Int} (h : MF M w s n f k g) (hT : TMv M L t) (kk : Q (some (vI (aCount w s n k L a))) M) : Ok G mX9_count d 0 0 [vR 96, vI a] M Q := by
  refine Ok_of rfl (Nat.le_of_ble_eq_true rfl) rfl ?_
  obtain ⟨c0, c1, c2, c3, c4⟩ := h.1.2.1.1
  have e12 : gI M 97 12 = (s 3 0 : Nat) := h.1.2.2.2
  unfold aCount at kk
  refine bX9_count_0 _ h.1.1 ⟨fun e => ?_, fun e => ?_, fun e => ?_, fun e => ?_, fun e => ?_, fun e => ?_, fun e => ?_, fun e => ?_, fun e => ?_, fun e => ?_⟩
  · subst e; rw [c0]; exact kk
  · subst e; rw [c1]; exact kk
  · subst e; rw [c2]; exact kk
  · subst e; rw [c3]; exact kk
  · subst e; rw [c4]; exact kk
  · subst e; rw [e12]; exact kk
  · subst e; rw [h.2.1.1]; exact kk
  · subst e; rw [h.2.1.2.2.1]; exact kk
  · subst e; rw [hT.1]; exact kk
  · rwa [if_neg (by omega), if_neg (by omega), if_neg (by omega), if_neg (by omega), if_neg (by omega), if_neg (by omega), if_neg (by omega), if_neg (by omega), if_neg (by omega)] at kk
end TEXT
