/-! ===== a day goes by: the developers' class ===== -/
/-- what holds of the State of a world -/
def SI (w : WT) (s : WT) : Prop := (∀ b, b < 4 → s 0 b < 2 ^ w 0 0 ∧ (w 0 3 ≤ b → s 0 b = 0) ∧ (s 0 b = 0 → s 1 b = 0) ∧ (s 0 b ≠ 0 → w 7 b ≤ str w (s 0 b)) ∧ s 1 b ≤ s 3 0 ∧ s 2 b ≤ s 3 0) ∧ (∀ a b, a < 4 → b < 4 → a ≠ b → s 0 a &&& s 0 b = 0)
theorem SI.sb {w s : WT} (h : SI w s) (hW : WOk w) (hd : s 3 0 ≤ 2000) : SB s := ⟨fun b hb => ⟨set_lt hW (h.1 b hb).1, (h.1 b hb).2.2.2.2.1, (h.1 b hb).2.2.2.2.2⟩, hd⟩
theorem goneS_lt' {w s : WT} (h : SI w s) : goneS s < 2 ^ w 0 0 := om_lt fun i hi => (h.1 i hi).1
theorem foundS_lt' {w s : WT} {late : Nat} (h : SI w s) : foundS s late < 2 ^ w 0 0 := om_lt fun i hi => by
  show (if s 1 i < 2 then nd (s 0 i) late else s 0 i) < 2 ^ w 0 0
  have := (h.1 i hi).1
  split
  · exact nd_lt this
  · exact this
/-- the State behind a day -/
def dayS (w s : WT) : WT := fun j b => if j = 3 then s 3 b + 1 else if s 0 b = 0 then s j b else if s 1 b + 1 ≠ 3 then (if j = 1 then s 1 b + 1 else s j b) else if str w (nd (s 0 b) (km w 2)) < w 7 b then (if j = 2 then s 2 b + 1 else 0) else (if j = 0 then nd (s 0 b) (km w 2) else if j = 1 then 3 else s j b)
def escB (w s : WT) (b : Nat) : Nat := if s 0 b = 0 then 0 else if s 1 b + 1 ≠ 3 then 0 else if str w (nd (s 0 b) (km w 2)) < w 7 b then 1 else 0
def escS (w s : WT) : Nat := sm (escB w s) 4
def midS (w s : WT) (i : Nat) : WT := fun j b => if j = 3 then s 3 b + 1 else if b < i then dayS w s j b else s j b
theorem k5_at {p : Nat} (h : kd p = 5) : 35 ≤ p ∧ p ≤ 83 := by
  have hp := (kd_in (p := p) (by omega)).2
  exact (by decide +kernel : ∀ p, p < 111 → kd p = 5 → 35 ≤ p ∧ p ≤ 83) p (by omega) h
theorem TB.st {M M' : MM} {w : WT} {p : Nat} (h : TB M w) (hk : kd p = 5) (hc : Ch (Pst p) M M') : TB M' w := h.of fun q hq j => hc.2.2 q j (by have := k5_at hk; unfold Pst; unfold Ptb at hq; omega)
theorem CW.st {M M' : MM} {w : WT} {p pw : Nat} (h : CW M pw w) (hw : kd pw = 7) (hk : kd p = 5) (hc : Ch (Pst p) M M') : CW M' pw w := h.of fun q hq j => hc.2.2 q j (by have := k5_at hk; have := k7_at hw; unfold Pst; unfold Pwo at hq; omega)
section DAY
variable {G : GG} {M : MM} {d : Nat} {Q : Option AV → MM → Prop}
theorem ok_passDay {p pw : Nat} {w s : WT} (hd : 2 ≤ d) (hk : kd p = 5) (hkw : kd pw = 7) (hS : ShX M) (hw : CW M pw w) (hW : WOk w) (hT : TB M w) (hV : SV M p s) (hI : SI w s) (hdy : s 3 0 ≤ 1900) (kk : ∀ M', Ch (Pst p) M M' → SV M' p (dayS w s) → Q (some (vI (escS w s : Nat))) M') : Ok G mX5_passDay d 0 0 [vR p, vR pw, vR 30] M Q := by
  obtain ⟨d, rfl⟩ : ∃ e, d = e + 1 := ⟨d - 1, by omega⟩
  refine Ok_of rfl (Nat.le_of_ble_eq_true rfl) rfl ?_
  have hat := k5_at hk
  refine bX5_passDay_0 _ hk _ hkw hS ?_
  rw [hV.2]
  refine ⟨⟨by omega, by omega⟩, ?_⟩
  rintro M0 hM0
  have c0 : Ch (Pst p) M M0 := by rw [hM0]; exact Ch.rf.st (Or.inl rfl)
  have v0 : SV M0 p (midS w s 0) := by
    refine ⟨fun b hb => ?_, ?_⟩
    · rw [hM0, gI_ne _ _ (by omega), gI_ne _ _ (by omega), gI_ne _ _ (by omega)]
      exact hV.1 b hb
    · rw [hM0, gI_same]
      rfl
  refine down (fun i => ∀ M', Ch (Pst p) M M' → SV M' p (midS w s i) → Wp G mX5_passDay (d + 1) 0 0 15 [some (vR p), some (vR pw), some (vR 30), some (vI (sm (escB w s) i : Nat)), some (vI (i : Int))] [] M' 0 0 Q) (n := 4) ?_ ?_ 0 (by decide) M0 c0 v0
  · intro M' hc hv
    refine bX5_passDay_15 _ hk _ hkw _ _ (hS.ch hc) ⟨fun _ => kk M' hc ⟨fun b hb => ?_, hv.2⟩, fun h => absurd h (by decide)⟩
    have := hv.1 b hb
    simp only [midS, if_pos hb] at this
    exact this
  · intro i hi ih M' hc hv
    have hle := sm_le (f := escB w s) (c := 1) (n := i) (fun j _ => by unfold escB; split; omega; split; omega; split <;> omega)
    have es : sm (escB w s) (i + 1) = sm (escB w s) i + escB w s i := rfl
    obtain ⟨b1, b2, b3, b4, b5, b6⟩ := hI.1 i hi
    obtain ⟨v1, v2, v3⟩ := hv.1 i hi
    have n0 : ¬ i < i := by omega
    simp only [midS, if_neg n0, show ¬ (0 = 3) by decide, show ¬ (1 = 3) by decide, show ¬ (2 = 3) by decide, if_false] at v1 v2 v3
    -- a memory that differs at i alone as the day says
    have fin : ∀ M2, Ch (Pst p) M M2 → (∀ b, b < 4 → b ≠ i → gI M2 (p + 1) b = gI M' (p + 1) b ∧ gI M2 (p + 2) b = gI M' (p + 2) b ∧ gI M2 (p + 3) b = gI M' (p + 3) b) → gI M2 p 0 = gI M' p 0 → gI M2 (p + 1) i = (dayS w s 0 i : Nat) → gI M2 (p + 2) i = (dayS w s 1 i : Nat) → gI M2 (p + 3) i = (dayS w s 2 i : Nat) → SV M2 p (midS w s (i + 1)) := by
      intro M2 _ e e0 e1 e2 e3
      refine ⟨fun b hb => ?_, ?_⟩
      · by_cases hbi : b = i
        · subst hbi
          simp only [midS, show b < b + 1 by omega, show ¬ (0 = 3) by decide, show ¬ (1 = 3) by decide, show ¬ (2 = 3) by decide, if_false, if_true]
          exact ⟨e1, e2, e3⟩
        · obtain ⟨a1, a2, a3⟩ := e b hb hbi
          rw [a1, a2, a3]
          have := hv.1 b hb
          simp only [midS, show ¬ (0 = 3) by decide, show ¬ (1 = 3) by decide, show ¬ (2 = 3) by decide, if_false] at this ⊢
          by_cases h : b < i
          · rw [if_pos h, if_pos h, if_pos h] at this
            rw [if_pos (by omega), if_pos (by omega), if_pos (by omega)]
            exact this
          · rw [if_neg h, if_neg h, if_neg h] at this
            rw [if_neg (by omega), if_neg (by omega), if_neg (by omega)]
            exact this
      · rw [e0, hv.2]
        rfl
    refine bX5_passDay_15 _ hk _ hkw _ _ (hS.ch hc) ⟨fun h => absurd h (by omega), fun _ => ⟨by omega, fun hne => ?_, fun hz => ⟨⟨by omega, by omega⟩, ?_⟩⟩⟩
    · rw [Int.toNat_natCast] at hne ⊢
      rw [v1] at hne
      have hne : s 0 i ≠ 0 := fun z => hne (by rw [z]; rfl)
      rw [v2]
      refine ⟨⟨by omega, by omega⟩, ?_⟩
      rintro M1 hM1
      have c1 : Ch (Pst p) M M1 := by rw [hM1]; exact hc.st (Or.inr (Or.inr (Or.inl rfl)))
      have a1 : gI M1 (p + 2) i = ((s 1 i + 1 : Nat) : Int) := by rw [hM1, gI_same]; rfl
      have r1 : gI M1 (p + 1) i = (s 0 i : Nat) := by rw [hM1, gI_ne _ _ (by omega)]; exact v1
      have x1 : gI M1 (p + 3) i = (s 2 i : Nat) := by rw [hM1, gI_ne _ _ (by omega)]; exact v3
      rw [a1]
      refine ⟨fun h3 => ?_, fun h3 => ⟨⟨by omega, by omega⟩, ?_⟩⟩
      · have h3 : s 1 i + 1 = 3 := by omega
        rintro M2 hM2
        have hb : i < w 0 3 := by
          rcases Nat.lt_or_ge i (w 0 3) with q | q
          · exact q
          · exact absurd (b2 q) hne
        have e6 : gI M1 pw 6 = km w 2 := (hw.st hkw hk c1).2.1.2.1
        have hlt : s 0 i < 1024 := set_lt hW b1
        rw [r1, e6, ind_n (by omega)] at hM2
        have c2 : Ch (Pst p) M M2 := by rw [hM2]; exact c1.st (Or.inr (Or.inl rfl))
        have r2 : gI M2 (p + 1) i = (nd (s 0 i) (km w 2) : Nat) := by rw [hM2, gI_same]
        have a2 : gI M2 (p + 2) i = ((s 1 i + 1 : Nat) : Int) := by rw [hM2, gI_ne _ _ (by omega)]; exact a1
        have x2 : gI M2 (p + 3) i = (s 2 i : Nat) := by rw [hM2, gI_ne _ _ (by omega)]; exact x1
        have hnd : nd (s 0 i) (km w 2) < 2 ^ w 0 0 := nd_lt b1
        rw [r2]
        refine ok_strengthOf (hS.ch c2) (hT.st hk c2) hW hnd ⟨_, rfl, hS.ch c2, ok_pullOfBeast (by omega) hkw (hS.ch c2) (hw.st hkw hk c2) hW hb ⟨_, rfl, hS.ch c2, fun hle2 => ⟨⟨by omega, by omega⟩, ?_⟩, fun hnle => ?_⟩⟩
        · have hle2 : ¬ str w (nd (s 0 i) (km w 2)) < w 7 i := by omega
          have ee : escB w s i = 0 := by unfold escB; rw [if_neg hne, if_neg (by omega), if_neg hle2]
          rw [show sm (escB w s) i = sm (escB w s) (i + 1) by rw [es, ee, Nat.add_zero]]
          refine ih M2 c2 (fin M2 c2 (fun b hb hbi => ?_) ?_ ?_ ?_ ?_)
          · rw [hM2, hM1]
            simp only [gI_st, hbi, and_false, if_false, and_self]
          · rw [hM2, gI_ne _ _ (by omega), hM1, gI_ne _ _ (by omega)]
          · rw [r2]
            simp [dayS, hne, h3, hle2]
          · rw [a2, h3]
            simp [dayS, hne, h3, hle2]
          · rw [x2]
            simp [dayS, hne, h3, hle2]
        · have hlt2 : str w (nd (s 0 i) (km w 2)) < w 7 i := by omega
          have ee : escB w s i = 1 := by unfold escB; rw [if_neg hne, if_neg (by omega), if_pos hlt2]
          refine ok_untie (by omega) hk (hS.ch c2) (by omega) (by omega) ⟨rfl, ?_⟩
          rw [Int.toNat_natCast]
          have c3 : Ch (Pst p) M (stI (stI M2 (p + 1) i 0) (p + 2) i 0) := (c2.st (Or.inr (Or.inl rfl))).st (Or.inr (Or.inr (Or.inl rfl)))
          generalize hM3 : stI (stI M2 (p + 1) i 0) (p + 2) i 0 = M3 at c3
          have x3 : gI M3 (p + 3) i = (s 2 i : Nat) := by rw [← hM3, gI_ne _ _ (by omega), gI_ne _ _ (by omega)]; exact x2
          refine ⟨hS.ch c3, ?_⟩
          rw [x3]
          refine ⟨⟨by omega, by omega⟩, ?_⟩
          rintro M4 hM4
          have c4 : Ch (Pst p) M M4 := by rw [hM4]; exact c3.st (Or.inr (Or.inr (Or.inr rfl)))
          refine ⟨⟨by omega, by omega⟩, ⟨by omega, by omega⟩, ?_⟩
          have e9 : ((sm (escB w s) i : Nat) : Int) + 1 = ((sm (escB w s) (i + 1) : Nat) : Int) := by rw [es, ee]; rfl
          rw [e9]
          refine ih M4 c4 (fin M4 c4 (fun b hb hbi => ?_) ?_ ?_ ?_ ?_)
          · rw [hM4, ← hM3, hM2, hM1]
            simp only [gI_st, hbi, and_false, if_false, and_self]
          · rw [hM4, gI_ne _ _ (by omega), ← hM3, gI_ne _ _ (by omega), gI_ne _ _ (by omega), hM2, gI_ne _ _ (by omega), hM1, gI_ne _ _ (by omega)]
          · rw [hM4, gI_ne _ _ (by omega), ← hM3, gI_ne _ _ (by omega), gI_same]
            simp [dayS, hne, h3, hlt2]
          · rw [hM4, gI_ne _ _ (by omega), ← hM3, gI_same]
            simp [dayS, hne, h3, hlt2]
          · rw [hM4, gI_same]
            simp [dayS, hne, h3, hlt2]
      · have h3 : s 1 i + 1 ≠ 3 := by omega
        have ee : escB w s i = 0 := by unfold escB; rw [if_neg hne, if_pos h3]
        rw [show sm (escB w s) i = sm (escB w s) (i + 1) by rw [es, ee, Nat.add_zero]]
        refine ih M1 c1 (fin M1 c1 (fun b hb hbi => ?_) ?_ ?_ ?_ ?_)
        · rw [hM1]
          simp only [gI_st, hbi, and_false, if_false, and_self]
        · rw [hM1, gI_ne _ _ (by omega)]
        · rw [r1]
          simp [dayS, hne, h3]
        · rw [a1]
          simp [dayS, hne, h3]
        · rw [x1]
          simp [dayS, hne, h3]
    · rw [Int.toNat_natCast, v1] at hz
      have hz : s 0 i = 0 := by omega
      have ee : escB w s i = 0 := by unfold escB; rw [if_pos hz]
      rw [show sm (escB w s) i = sm (escB w s) (i + 1) by rw [es, ee, Nat.add_zero]]
      refine ih M' hc (fin M' hc (fun b hb hbi => ⟨rfl, rfl, rfl⟩) rfl ?_ ?_ ?_)
      · rw [v1]
        simp [dayS, hz]
      · rw [v2]
        simp [dayS, hz]
      · rw [v3]
        simp [dayS, hz]
end DAY
