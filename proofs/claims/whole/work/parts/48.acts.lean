/-! ===== loosen, days, undo, keep, restore of the class ===== -/
def dyN (w s : WT) : Nat → WT
  | 0 => s
  | i + 1 => dayS w (dyN w s i)
def esN (w s : WT) : Nat → Nat
  | 0 => 0
  | i + 1 => esN w s i + escS w (dyN w s i)
theorem dyN_3 {w s : WT} : ∀ i, dyN w s i 3 0 = s 3 0 + i
  | 0 => rfl
  | i + 1 => by
    show dayS w (dyN w s i) 3 0 = _
    have e : dayS w (dyN w s i) 3 0 = dyN w s i 3 0 + 1 := rfl
    rw [e, dyN_3 i]
    omega
theorem dyN_SI {w s : WT} (h : SI w s) (hW : WOk w) : ∀ i, SI w (dyN w s i)
  | 0 => h
  | i + 1 => (dyN_SI h hW i).day hW
theorem escS_le {w s : WT} : escS w s ≤ 4 := by
  have : escS w s ≤ 4 * 1 := sm_le fun i _ => by
    unfold escB
    split
    · omega
    · split
      · omega
      · split <;> omega
  omega
theorem esN_le {w s : WT} : ∀ i, esN w s i ≤ 4 * i
  | 0 => Nat.le_refl _
  | i + 1 => by
    have := esN_le (w := w) (s := s) i
    have := escS_le (w := w) (s := dyN w s i)
    show esN w s i + escS w (dyN w s i) ≤ _
    omega
section ACTS
variable {G : GG} {M : MM} {d : Nat} {Q : Option AV → MM → Prop} {w s : WT} {n k : Nat} {f g : Nat → WT}
theorem ok8_loosen {b : Int} (hd : 3 ≤ d) (h : XF M w s n f k g) (hP : PIv w s)
    (k0 : ¬ (0 ≤ b ∧ b < w 0 3) → Q (some (vI (-1))) M) (k2 : (0 ≤ b ∧ b < w 0 3) → s 0 b.toNat = 0 → Q (some (vI (-2))) M)
    (k1 : (0 ≤ b ∧ b < w 0 3) → s 0 b.toNat ≠ 0 → ∀ M', XF M' w (bindS s b.toNat 0) (pshn n 8) (psh n 8 f s) k g → ChX M M' → Q (some (vI (pc (s 0 b.toNat) 10 : Nat))) M') : Ok G mX8_loosen d 0 0 [vR 1, vI b] M Q := by
  obtain ⟨d, rfl⟩ : ∃ e, d = e + 1 := ⟨d - 1, by omega⟩
  refine Ok_of rfl (Nat.le_of_ble_eq_true rfl) rfl ?_
  have hX := h.1
  have hW := hP.1
  have h4 := hW.1.2.2.2.1
  refine bX8_loosen_0 _ hX.1 (ok8_isBeast hX (fun hb => ⟨_, rfl, hX.1, fun _ => ?_, fun z => absurd z (by decide)⟩) (fun hb => ⟨_, rfl, hX.1, fun z => absurd rfl z, fun _ => k0 hb⟩))
  have k2 := k2 hb
  have k1 := k1 hb
  obtain ⟨b, rfl⟩ := nat_of hb.1
  rw [Int.toNat_natCast] at k2 k1
  have hsl := set_lt hW (hP.2.1.1 b (by omega)).1
  have hb04 : (0 : Int) ≤ b ∧ (b : Int) < 4 := by omega
  refine ok_isBound (by omega) rfl hX.1 ⟨_, rfl, hX.1, ?_⟩
  rw [if_pos hb04, Int.toNat_natCast, (hX.2.2.2.1 b (by omega)).1]
  refine ⟨fun z => ?_, fun z => k2 ?_⟩
  · have hs0 : s 0 b ≠ 0 := fun q => by rw [q] at z; exact absurd rfl z
    refine ok8_push (by omega) h fun M1 h1 c1 => ⟨rfl, h1.1.1, ok_ribbonOf rfl h1.1.1 ?_⟩
    rw [if_pos hb04, Int.toNat_natCast, (h1.1.2.2.2.1 b (by omega)).1]
    refine ⟨_, rfl, h1.1.1, ok_bitCount hsl ⟨_, rfl, h1.1.1, ok_untie (by omega) rfl h1.1.1 hb04.1 hb04.2 ?_⟩⟩
    rw [Int.toNat_natCast]
    have c2 : Ch (Pst 35) M1 (stI (stI M1 (35 + 1) b ((0 : Nat) : Int)) (35 + 2) b 0) := (Ch.rf.st (Or.inr (Or.inl rfl))).st (Or.inr (Or.inr (Or.inl rfl)))
    obtain ⟨h2, c3⟩ := h1.now c2 (SV.bind (r := 0) (by omega) h1.1.2.2.2)
    exact ⟨rfl, h2.1.1, k1 hs0 _ h2 (c1.tr c3)⟩
  · rcases Classical.em ((s 0 b : Int) = 0) with q | q
    · omega
    · rw [if_neg q] at z; exact absurd z (by decide)
theorem ok8_days {a : Int} (hd : 3 ≤ d) (h : XF M w s n f k g) (hP : PIv w s)
    (k0 : ¬ (1 ≤ a ∧ a ≤ 40) → Q (some (vI (-1))) M) (k2 : (1 ≤ a ∧ a ≤ 40) → ¬ (s 3 0 + a.toNat ≤ 999) → Q (some (vI (-2))) M)
    (k1 : (1 ≤ a ∧ a ≤ 40) → s 3 0 + a.toNat ≤ 999 → ∀ M', XF M' w (dyN w s a.toNat) (pshn n 8) (psh n 8 f s) k g → ChX M M' → Q (some (vI (esN w s a.toNat : Nat))) M') : Ok G mX8_days d 0 0 [vR 1, vI a] M Q := by
  obtain ⟨d, rfl⟩ : ∃ e, d = e + 1 := ⟨d - 1, by omega⟩
  refine Ok_of rfl (Nat.le_of_ble_eq_true rfl) rfl ?_
  have hX := h.1
  have hW := hP.1
  have hdy := hP.2.2
  refine bX8_days_0 _ hX.1 ⟨fun z => k0 (by omega), fun z1 => ⟨fun z2 => ?_, fun z => k0 (by omega)⟩⟩
  have k2 := k2 (by omega)
  have k1 := k1 (by omega)
  obtain ⟨a, rfl⟩ := nat_of (show 0 ≤ a by omega)
  rw [Int.toNat_natCast] at k2 k1
  rw [hX.2.2.2.2]
  refine ⟨⟨by omega, by omega⟩, fun z => ?_, fun z => k2 (by omega)⟩
  refine ok8_push (by omega) h fun M1 h1 c1 => ⟨rfl, h1.1.1, ?_⟩
  refine down (fun i => ∀ M', XF M' w (dyN w s i) (pshn n 8) (psh n 8 f s) k g → ChX M M' → Wp G mX8_days (d + 1) 0 0 46 [some (vR 1), some (vI a), some (vI (esN w s i : Nat)), some (vI (i : Int))] [] M' 0 0 Q) (n := a) ?_ ?_ 0 (Nat.zero_le _) M1 h1 c1
  · intro M' h2 c2
    exact bX8_days_46 _ _ _ h2.1.1 ⟨fun _ => k1 (by omega) M' h2 c2, fun z => absurd (Int.le_refl _) z⟩
  · intro i hi ih M' h2 c2
    have e3 := dyN_3 (w := w) (s := s) i
    have hle := esN_le (w := w) (s := s) i
    have hl2 := escS_le (w := w) (s := dyN w s i)
    refine bX8_days_46 _ _ _ h2.1.1 ⟨fun z => absurd z (by omega), fun _ => ok_passDay (by omega) rfl (xlaid h2.1.1) h2.1.1 h2.1.2.1 hW h2.1.2.2.1 h2.1.2.2.2 (dyN_SI hP.2.1 hW i) (by omega) fun M3 c3 hV3 => ?_⟩
    obtain ⟨h4, c4⟩ := h2.now c3 hV3
    exact ⟨_, rfl, h4.1.1, ⟨by omega, by omega⟩, ⟨by omega, by omega⟩, ih M3 h4 (c2.tr c4)⟩
theorem ok8_undo (hd : 2 ≤ d) (h : XF M w s n f k g) (k0 : n = 0 → Q (some (vI (-2))) M) (k1 : ∀ m M', n = m + 1 → XF M' w (f m) m f k g → ChX M M' → Q (some (vI (m : Nat))) M') : Ok G mX8_undo d 0 0 [vR 1] M Q := by
  obtain ⟨d, rfl⟩ : ∃ e, d = e + 1 := ⟨d - 1, by omega⟩
  refine Ok_of rfl (Nat.le_of_ble_eq_true rfl) rfl ?_
  refine bX8_undo_0 h.1.1 (ok_popInto (by omega) rfl h.1.1 h.2.1 (fun e => ⟨_, rfl, h.1.1, fun _ => k0 e, fun z => absurd rfl z⟩) fun m M' e hS' c hP' hV' => ⟨_, rfl, hS', fun z => absurd z (by decide), fun _ => ok_size2 rfl hS' ⟨_, rfl, hS', ?_⟩⟩)
  have cx : ChX M M' := ChX.ch c fun q hq => by unfold Pst at hq; omega
  rw [hP'.2.1]
  refine k1 m M' e ⟨h.1.cx cx hS' hV', hP', h.2.2.eq rfl (fun i => by unfold gR; rw [c.2.1]) fun q j hq => c.2.2 q j ?_⟩ cx
  unfold Ppi at hq; unfold Pst; omega
theorem ok8_keep (hd : 2 ≤ d) (h : XF M w s n f k g) (k0 : k = 2 → Q (some (vI (-3))) M) (k1 : k < 2 → ∀ M', XF M' w s n f (k + 1) (psh k 2 g s) → ChX M M' → Q (some (vI (k + 1 : Nat))) M') : Ok G mX8_keep d 0 0 [vR 1] M Q := by
  obtain ⟨d, rfl⟩ : ∃ e, d = e + 1 := ⟨d - 1, by omega⟩
  refine Ok_of rfl (Nat.le_of_ble_eq_true rfl) rfl ?_
  have hk2 : k ≤ 2 := h.2.2.2.2.1
  refine bX8_keep_0 h.1.1 (ok_size2 rfl h.1.1 ⟨_, rfl, h.1.1, ?_⟩)
  rw [h.2.2.2.1]
  refine ⟨fun z => ok8_pushK (by omega) h fun M' h' c => ⟨rfl, h'.1.1, ok_size2 rfl h'.1.1 ⟨_, rfl, h'.1.1, ?_⟩⟩, fun z => k0 (by omega)⟩
  have e : pshn k 2 = k + 1 := if_pos (by omega)
  rw [e] at h'
  rw [h'.2.2.2.1]
  exact k1 (by omega) M' h' c
theorem ok8_restore (hd : 2 ≤ d) (h : XF M w s n f k g) (k0 : k = 0 → Q (some (vI (-2))) M) (k1 : ∀ m M', k = m + 1 → XF M' w (g m) 0 f m g → ChX M M' → Q (some (vI (m : Nat))) M') : Ok G mX8_restore d 0 0 [vR 1] M Q := by
  obtain ⟨d, rfl⟩ : ∃ e, d = e + 1 := ⟨d - 1, by omega⟩
  refine Ok_of rfl (Nat.le_of_ble_eq_true rfl) rfl ?_
  refine bX8_restore_0 h.1.1 (ok_popInto (by omega) rfl h.1.1 h.2.2 (fun e => ⟨_, rfl, h.1.1, fun z => absurd rfl z, fun _ => k0 e⟩) fun m M' e hS' c hP' hV' => ⟨_, rfl, hS', fun _ => ok_clear2 rfl hS' ⟨rfl, hS'.of rfl, ok_size2 rfl (hS'.of rfl) ⟨_, rfl, hS'.of rfl, ?_⟩⟩, fun z => absurd z (by decide)⟩)
  have cx : ChX M M' := ChX.ch c fun q hq => by unfold Pst at hq; omega
  have cx2 : ChX M' (stI M' 43 1 0) := ChX.ch (P := fun q => q = 43) (Ch.rf.st rfl) fun q hq => by omega
  have e1 : gI (stI M' 43 1 0) 77 1 = (m : Nat) := (gI_ne _ _ (by omega)).trans hP'.2.1
  rw [e1]
  have hPu : PV M' 43 n f := h.2.1.eq rfl (fun i => by unfold gR; rw [c.2.1]) fun q j hq => c.2.2 q j (by
    have e1 : ln (43 + 1) = 8 := rfl
    unfold Ppi at hq; unfold Pst; omega)
  refine k1 m _ e ⟨h.1.cx (cx.tr cx2) (hS'.of rfl) (hV'.eq fun r j hr => gI_ne _ _ (by unfold Pst at hr; omega)), ⟨hPu.1, gI_same _ _ _ _, Nat.zero_le _, fun i hi => absurd hi (Nat.not_lt_zero i)⟩, hP'.eq rfl (fun i => rfl) fun q j hq => gI_ne _ _ ?_⟩ (cx.tr cx2)
  unfold Ppi at hq; omega
end ACTS
