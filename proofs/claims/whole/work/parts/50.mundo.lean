/-! ===== undo, keep, restore of the reference ===== -/
section MUNDO
variable {G : GG} {M : MM} {d : Nat} {Q : Option AV → MM → Prop} {w s : WT} {n k : Nat} {f g : Nat → WT}
theorem ok9_undo (hd : 2 ≤ d) (h : MF M w s n f k g) (k0 : n = 0 → Q (some (vI (-2))) M) (k1 : ∀ m M', n = m + 1 → MF M' w (f m) m f k g → ChM M M' → Q (some (vI (m : Nat))) M') : Ok G mX9_undo d 0 0 [vR 96] M Q := by
  obtain ⟨d, rfl⟩ : ∃ e, d = e + 1 := ⟨d - 1, by omega⟩
  refine Ok_of rfl (Nat.le_of_ble_eq_true rfl) rfl ?_
  obtain ⟨⟨a1, a2, a3⟩, ⟨p1, p2, p3, p4⟩, p5, p6⟩ := h
  refine bX9_undo_0 a1 ?_
  rw [p1]
  refine ⟨fun z => ⟨⟨by omega, by omega⟩, ?_⟩, fun z => k0 (by omega)⟩
  obtain ⟨m, rfl⟩ : ∃ m, n = m + 1 := ⟨n - 1, by omega⟩
  rw [show (((m + 1 : Nat) : Int) - 1) = (m : Int) by omega]
  rintro _ rfl
  rw [gI_same]
  refine ⟨⟨by omega, by omega⟩, ⟨by omega, by omega⟩, ?_⟩
  rw [show 52 + (13 * (m : Int)) = ((52 + 13 * m : Nat) : Int) by omega]
  have c2 : ChM M (stI M 96 1 (m : Int)) := ChM.rf.st (Or.inr (Or.inl ⟨rfl, Or.inl rfl⟩))
  have g97 : ∀ j, gI (stI M 96 1 (m : Int)) 97 j = gI M 97 j := fun j => gI_ne _ _ (by omega)
  refine ok9_copy (b := 0) (c2.sh a1) ((p5 m (by omega)).eq fun j _ _ => g97 j) (by omega) (by decide) (by omega) fun M3 c3 hR3 => ⟨rfl, c3.sh (c2.sh a1), ?_⟩
  have e1 : gI M3 96 1 = (m : Nat) := (c3.2.2.1 96 1 (by decide)).trans (gI_same _ _ _ _)
  rw [e1]
  refine k1 m M3 rfl ⟨⟨c3.sh (c2.sh a1), c3.mw (c2.mw a2), hR3⟩, ⟨e1, by omega, ((c3.2.2.1 96 2 (by decide)).trans (gI_ne _ _ (by omega))).trans p3, p4⟩, fun i hi => (p5 i (by omega)).eq fun j h1 _ => (c3.2.2.2 j (by omega)).trans (g97 j), fun i hi => (p6 i hi).eq fun j h1 _ => (c3.2.2.2 j (by omega)).trans (g97 j)⟩ (c2.tr (ChM.cr c3))
theorem ok9_keep (hd : 2 ≤ d) (h : MF M w s n f k g) (k0 : k = 2 → Q (some (vI (-3))) M) (k1 : k < 2 → ∀ M', MF M' w s n f (k + 1) (psh k 2 g s) → ChM M M' → Q (some (vI (k + 1 : Nat))) M') : Ok G mX9_keep d 0 0 [vR 96] M Q := by
  obtain ⟨d, rfl⟩ : ∃ e, d = e + 1 := ⟨d - 1, by omega⟩
  refine Ok_of rfl (Nat.le_of_ble_eq_true rfl) rfl ?_
  obtain ⟨⟨a1, a2, a3⟩, ⟨p1, p2, p3, p4⟩, p5, p6⟩ := h
  refine bX9_keep_0 a1 ?_
  rw [p3]
  refine ⟨fun z => ⟨⟨by omega, by omega⟩, ⟨by omega, by omega⟩, ?_⟩, fun z => k0 (by omega)⟩
  have hk : k < 2 := by omega
  rw [show 26 + (13 * (k : Int)) = ((26 + 13 * k : Nat) : Int) by omega]
  refine ok9_copy (a := 0) a1 a3 (by decide) (by omega) (by omega) fun M2 c hR2 => ⟨rfl, c.sh a1, ?_⟩
  have e2 : gI M2 96 2 = (k : Nat) := (c.2.2.1 96 2 (by decide)).trans p3
  rw [e2]
  refine ⟨⟨by omega, by omega⟩, ?_⟩
  rintro _ rfl
  have g97 : ∀ j, gI (stI M2 96 2 ((k : Int) + 1)) 97 j = gI M2 97 j := fun j => gI_ne _ _ (by omega)
  have cm : ChM M (stI M2 96 2 ((k : Int) + 1)) := (ChM.cr c).st (Or.inr (Or.inl ⟨rfl, Or.inr rfl⟩))
  rw [gI_same]
  refine k1 hk _ ⟨⟨cm.sh a1, cm.mw a2, a3.eq fun j h1 h2 => (g97 j).trans (c.2.2.2 j (by omega))⟩, ⟨(gI_ne _ _ (by omega)).trans ((c.2.2.1 96 1 (by decide)).trans p1), p2, by rw [gI_same]; rfl, by omega⟩, fun i hi => (p5 i hi).eq fun j h1 _ => (g97 j).trans (c.2.2.2 j (by omega)), fun i hi => ?_⟩ cm
  unfold psh
  rw [if_pos hk]
  by_cases e : i = k
  · rw [if_pos e, e]
    exact hR2.eq fun j _ _ => g97 j
  · rw [if_neg e]
    exact (p6 i (by omega)).eq fun j h1 h2 => (g97 j).trans (c.2.2.2 j (by omega))
theorem ok9_restore (hd : 2 ≤ d) (h : MF M w s n f k g) (k0 : k = 0 → Q (some (vI (-2))) M) (k1 : ∀ m M', k = m + 1 → MF M' w (g m) 0 f m g → ChM M M' → Q (some (vI (m : Nat))) M') : Ok G mX9_restore d 0 0 [vR 96] M Q := by
  obtain ⟨d, rfl⟩ : ∃ e, d = e + 1 := ⟨d - 1, by omega⟩
  refine Ok_of rfl (Nat.le_of_ble_eq_true rfl) rfl ?_
  obtain ⟨⟨a1, a2, a3⟩, ⟨p1, p2, p3, p4⟩, p5, p6⟩ := h
  refine bX9_restore_0 a1 ?_
  rw [p3]
  refine ⟨fun z => ⟨⟨by omega, by omega⟩, ?_⟩, fun z => k0 (by omega)⟩
  obtain ⟨m, rfl⟩ : ∃ m, k = m + 1 := ⟨k - 1, by omega⟩
  rw [show (((m + 1 : Nat) : Int) - 1) = (m : Int) by omega]
  rintro _ rfl
  rw [gI_same]
  refine ⟨⟨by omega, by omega⟩, ⟨by omega, by omega⟩, ?_⟩
  rw [show 26 + (13 * (m : Int)) = ((26 + 13 * m : Nat) : Int) by omega]
  have c2 : ChM M (stI M 96 2 (m : Int)) := ChM.rf.st (Or.inr (Or.inl ⟨rfl, Or.inr rfl⟩))
  have g97 : ∀ j, gI (stI M 96 2 (m : Int)) 97 j = gI M 97 j := fun j => gI_ne _ _ (by omega)
  refine ok9_copy (b := 0) (c2.sh a1) ((p6 m (by omega)).eq fun j _ _ => g97 j) (by omega) (by decide) (by omega) fun M3 c3 hR3 => ⟨rfl, c3.sh (c2.sh a1), ?_⟩
  rintro _ rfl
  have e2 : gI (stI M3 96 1 0) 96 2 = (m : Nat) := ((gI_ne _ _ (by omega)).trans (c3.2.2.1 96 2 (by decide))).trans (gI_same _ _ _ _)
  have g972 : ∀ j, gI (stI M3 96 1 0) 97 j = gI M3 97 j := fun j => gI_ne _ _ (by omega)
  have cm : ChM M (stI M3 96 1 0) := (c2.tr (ChM.cr c3)).st (Or.inr (Or.inl ⟨rfl, Or.inl rfl⟩))
  rw [e2]
  refine k1 m _ rfl ⟨⟨cm.sh a1, cm.mw a2, hR3.eq fun j _ _ => g972 j⟩, ⟨gI_same _ _ _ _, by omega, e2, by omega⟩, fun i hi => absurd hi (Nat.not_lt_zero i), fun i hi => (p6 i (by omega)).eq fun j h1 h2 => ((g972 j).trans (c3.2.2.2 j (by omega))).trans (g97 j)⟩ cm
end MUNDO
