/-! ===== the class reads a text; fault ===== -/
/-- what the reading changes -/
def Prd (p : Nat) : Nat → Prop := fun q => q = 4 ∨ q = 5 ∨ Pwo p q
theorem TXv.of {M M' : MM} {L : Nat} {t : Nat → Int} (h : TXv M L t) (e : ∀ q j, q = 2 ∨ q = 3 → gI M' q j = gI M q j) : TXv M' L t := ⟨(e 2 1 (Or.inl rfl)).trans h.1, h.2.1, fun i hi => (e 3 i (Or.inr rfl)).trans (h.2.2 i hi)⟩
theorem TXv.rd {M M' : MM} {L p : Nat} {t : Nat → Int} (hk : kd p = 7) (h : TXv M L t) (c : Ch (Prd p) M M') : TXv M' L t := by
  have := k7_at hk
  exact h.of fun q j hq => c.2.2 q j (by unfold Prd Pwo; omega)
section READX
variable {G : GG} {M : MM} {d : Nat} {Q : Option AV → MM → Prop} {w : WT} {p L a : Nat} {t : Nat → Int}
theorem ok1_signAt {i : Nat} (hS : ShX M) (hT : TXv M L t) (kk : Q (some (vI (sg t L i))) M) : Ok G mX1_signAt d 0 0 [vR 2, vI i] M Q := by
  refine ok_signAt hS ?_
  obtain ⟨t1, t2, t3⟩ := hT
  rw [t1, Int.toNat_natCast]
  by_cases h : i < L
  · rw [sg_lt h] at kk
    rw [if_pos (by omega), t3 i h]
    exact kk
  · rw [sg_ge h] at kk
    rw [if_neg (by omega)]
    exact kk
theorem ok4_figureAt {i : Nat} (hd : 1 ≤ d) (hS : ShX M) (hT : TXv M L t) (kk : Q (some (vI (if 48 ≤ sg t L i ∧ sg t L i ≤ 57 then sg t L i - 48 else -1))) M) : Ok G mX4_figureAt d 0 0 [vR 4, vI i] M Q := by
  obtain ⟨d, rfl⟩ : ∃ e, d = e + 1 := ⟨d - 1, by omega⟩
  refine Ok_of rfl (Nat.le_of_ble_eq_true rfl) rfl ?_
  refine bX4_figureAt_0 _ hS (ok1_signAt hS hT ⟨_, rfl, hS, fun h => ?_, fun h => ⟨fun h2 => ?_, fun h2 => ⟨⟨by omega, by omega⟩, ?_⟩⟩⟩)
  · rwa [if_neg (by omega)] at kk
  · rwa [if_neg (by omega)] at kk
  · rwa [if_pos (by omega)] at kk
theorem ok4_readNumber {i : Nat} (hd : 2 ≤ d) (hS : ShX M) (hT : TXv M L t) (hi : gI M 4 2 = (i : Nat)) (hb : i ≤ 300) (kk : ∀ M', Ch (fun q => q = 4) M M' → gI M' 4 2 = ((i + rdn t L i : Nat) : Int) → Q (some (vI (if rdn t L i = 0 then -1 else (rdv t L i : Nat)))) M') : Ok G mX4_readNumber d 0 0 [vR 4] M Q := by
  obtain ⟨d, rfl⟩ : ∃ e, d = e + 1 := ⟨d - 1, by omega⟩
  refine Ok_of rfl (Nat.le_of_ble_eq_true rfl) rfl ?_
  refine bX4_readNumber_0 hS ?_
  rw [hi]
  refine ok4_figureAt (by omega) hS hT ⟨_, rfl, hS, ?_⟩
  by_cases h : 48 ≤ sg t L i ∧ sg t L i ≤ 57
  · rw [if_pos h, hi]
    refine ⟨fun _ => ⟨⟨by omega, by omega⟩, ?_⟩, fun z => by omega⟩
    rintro _ rfl
    have c1 : Ch (fun q => q = 4) M (stI M 4 2 ((i : Int) + 1)) := Ch.rf.st rfl
    rw [gI_same, show (i : Int) + 1 = ((i + 1 : Nat) : Int) by omega]
    have hS1 : ShX (stI M 4 2 ((i + 1 : Nat) : Int)) := hS.of rfl
    refine ok4_figureAt (by omega) hS1 (hT.of fun q j hq => gI_ne _ _ (by omega)) ⟨_, rfl, hS1, ?_⟩
    by_cases h2 : 48 ≤ sg t L (i + 1) ∧ sg t L (i + 1) ≤ 57
    · rw [if_pos h2]
      obtain ⟨r1, r2⟩ := rd_2 h h2
      refine ⟨fun _ => ?_, fun z => by omega⟩
      rw [gI_same]
      refine ⟨⟨by omega, by omega⟩, ?_⟩
      rintro _ rfl
      refine ⟨⟨by omega, by omega⟩, ⟨by omega, by omega⟩, ?_⟩
      have c2 : Ch (fun q => q = 4) M (stI (stI M 4 2 ((i + 1 : Nat) : Int)) 4 2 (((i + 1 : Nat) : Int) + 1)) := ((Ch.rf (P := fun q => q = 4) (M := M)).st rfl).st rfl
      have := kk _ c2 (by rw [gI_same, r1]; omega)
      rw [if_neg (by omega), r2] at this
      exact this
    · rw [if_neg h2]
      obtain ⟨r1, r2⟩ := rd_1 h h2
      refine ⟨fun z => by omega, fun _ => ?_⟩
      have := kk _ (Ch.rf.st (p := 4) (k := 2) (x := ((i + 1 : Nat) : Int)) rfl) (by rw [gI_same, r1])
      rw [if_neg (by omega), r2] at this
      exact this
  · rw [if_neg h]
    refine ⟨fun z => by omega, fun _ => ?_⟩
    obtain ⟨r1, r2⟩ := rd_0 h
    have := kk M Ch.rf (by rw [hi, r1]; rfl)
    rw [if_pos r1] at this
    exact this
theorem ok4_numbersBehind {c : Int} (kk : Q (some (vI (nb c : Nat))) M) : Ok G mX4_numbersBehind d 0 0 [vI c] M Q := by
  refine Ok_of rfl (Nat.le_of_ble_eq_true rfl) rfl ?_
  refine bX4_numbersBehind_0 _ ⟨fun h => ?_, fun h => ?_, fun h => ?_, fun h => ?_, fun h => ?_, fun h => ?_⟩
  · subst h; exact kk
  · subst h; exact kk
  · subst h; exact kk
  · subst h; exact kk
  · subst h; exact kk
  · rw [nb_0 h] at kk; exact kk
theorem ok4_readItem (hd : 3 ≤ d) (hk : kd p = 7) (hS : ShX M) (hT : TXv M L t) (hw : CW M p w) (hW : WOk w) (ha : gI M 4 2 = (a : Nat)) (haL : a < L)
    (k0 : ¬ itm t L a w → ∀ M', Ch (Prd p) M M' → Q (some (vI 0)) M')
    (k1 : itm t L a w → ∀ M', Ch (Prd p) M M' → CW M' p (nw t L a w) → gI M' 4 2 = (nx t L a : Nat) → Q (some (vI 1)) M') : Ok G mX4_readItem d 0 0 [vR 4, vR p] M Q := by
  obtain ⟨d, rfl⟩ : ∃ e, d = e + 1 := ⟨d - 1, by omega⟩
  refine Ok_of rfl (Nat.le_of_ble_eq_true rfl) rfl ?_
  have hp := k7_at hk
  have hL := hT.2.1
  have cwc : ∀ {A B : MM} {W : WT}, CW A p W → (∀ q j, Pwo p q → gI B q j = gI A q j) → CW B p W := fun h c => h.of fun q hq j => c q j hq
  refine bX4_readItem_0 _ hk hS ?_
  rw [ha]
  refine ok1_signAt hS hT ⟨_, rfl, hS, ok4_numbersBehind ⟨_, rfl, hS, fun hn => ?_, fun hn => k0 (fun z => z.1 (by omega)) M Ch.rf⟩⟩
  have hn0 : nb (sg t L a) ≠ 0 := by omega
  have hn4 := nb_le (c := sg t L a)
  rw [ha]
  refine ⟨⟨by omega, by omega⟩, ?_⟩
  rintro _ rfl
  refine down (fun i => ∀ M', Ch (Prd p) M M' → gI M' 4 2 = (ps t L a i : Nat) → ps t L a i ≤ 200 → (∀ j, j < i → nOk t L a (nb (sg t L a)) j ∧ gI M' 5 j = (xs t L a j : Nat)) → CW M' p w → Wp G mX4_readItem (d + 1) 0 0 36 [some (vR 4), some (vR p), some (vI (sg t L a)), some (vI (nb (sg t L a) : Nat)), some (vI (i : Int)), none, none] [] M' 0 0 Q) (n := nb (sg t L a)) ?_ ?_ 0 (Nat.zero_le _) _ (Ch.rf.st (Or.inl rfl)) (gI_same _ _ _ _) (by show a + 1 ≤ 200; omega) (fun j hj => absurd hj (Nat.not_lt_zero j)) (cwc hw fun q j hq => gI_ne _ _ (by unfold Pwo at hq; omega))
  · intro M' c h1 _ h2 h3
    have hS' := hS.ch c
    refine bX4_readItem_36 _ hk _ _ _ hS' ⟨fun _ => ?_, fun h => absurd (Int.le_refl _) h⟩
    have hsy : sy t L a (nb (sg t L a)) := fun i hi => (h2 i hi).1
    exact ok7_take (y := fun i => gI M' 5 i) (by omega) hk hS' h3 hW hn0 (fun i hi => (h2 i hi).2) (fun h => ⟨_, rfl, hS', Or.inl rfl, k0 (fun z => h z.2.2) M' c⟩) (fun h M2 c2 hw2 => ⟨_, rfl, hS'.ch c2, Or.inr rfl, k1 ⟨hn0, hsy, h⟩ M2 (c.tr (c2.mono fun q hq => Or.inr (Or.inr hq))) hw2 ((c2.2.2 4 2 (by unfold Pwo; omega)).trans h1)⟩)
  · intro i hi ih M' c h1 hb h2 h3
    have hS' := hS.ch c
    have hT' := hT.rd hk c
    have hrd := rd_le (t := t) (L := L) (p := ps t L a i)
    refine bX4_readItem_36 _ hk _ _ _ hS' ⟨fun h => absurd h (by omega), fun _ => ⟨fun h => absurd h (by omega), fun _ => ok4_readNumber (by omega) hS' hT' h1 (by omega) fun M2 c2 g2 => ⟨_, rfl, hS'.ch c2, ⟨by omega, by omega⟩, ?_⟩⟩⟩
    have c2' : Ch (Prd p) M' M2 := c2.mono fun q hq => Or.inl hq
    by_cases hz : rdn t L (ps t L a i) = 0
    · rw [if_pos hz]
      refine ⟨fun _ => k0 (fun z => ?_) M2 (c.tr c2'), fun h => absurd (by decide) h⟩
      have := (z.2.1 i hi).1
      omega
    · rw [if_neg hz]
      refine ⟨fun h => absurd h (by omega), fun _ => ?_⟩
      rw [g2]
      have hS2 := hS'.ch c2
      refine ok1_signAt hS2 (hT'.rd hk c2') ⟨_, rfl, hS2, ?_⟩
      have ee : (if ((nb (sg t L a) : Nat) : Int) - 1 ≤ (i : Int) then (59 : Int) else 44) = if i + 1 < nb (sg t L a) then 44 else 59 := by
        by_cases q : i + 1 < nb (sg t L a)
        · rw [if_pos q, if_neg (by omega)]
        · rw [if_neg q, if_pos (by omega)]
      rw [ee]
      refine ⟨fun hs => ⟨by omega, ?_⟩, fun hs => k0 (fun z => hs (z.2.1 i hi).2) M2 (c.tr c2')⟩
      have hok : nOk t L a (nb (sg t L a)) i := ⟨by omega, hs⟩
      have hin := nOk_in hok
      rw [Int.toNat_natCast]
      rintro _ rfl
      have g3 : gI (stI M2 5 i (rdv t L (ps t L a i) : Nat)) 4 2 = ((ps t L a i + rdn t L (ps t L a i) : Nat) : Int) := (gI_ne _ _ (by omega)).trans g2
      rw [g3]
      have hps : ps t L a (i + 1) = ps t L a i + rdn t L (ps t L a i) + 1 := rfl
      refine ⟨⟨by omega, by omega⟩, ?_⟩
      rintro _ rfl
      refine ⟨⟨by omega, by omega⟩, ih _ (((c.tr c2').st (Or.inr (Or.inl rfl))).st (Or.inl rfl)) (by rw [gI_same, hps]; omega) (by omega) (fun j hj => ?_) ?_⟩
      · rw [gI_ne _ _ (by omega), gI_st]
        by_cases ej : j = i
        · rw [if_pos ⟨rfl, ej⟩, ej]
          exact ⟨hok, rfl⟩
        · rw [if_neg (fun z => ej z.2), c2.2.2 5 j (by decide)]
          exact h2 j (by omega)
      · refine cwc h3 fun q j hq => ?_
        unfold Pwo at hq
        rw [gI_ne _ _ (by omega), gI_ne _ _ (by omega), c2.2.2 q j (by omega)]
theorem ok4_readInto (hd : 4 ≤ d) (hk : kd p = 7) (hS : ShX M) (hT : TXv M L t)
    (kn : ∀ M', Ch (Prd p) M M' → (rdA t L).1 = none → CW M' p (rdA t L).2 → Q (some (vI (-4))) M')
    (kf : ∀ M' (b : Nat), Ch (Prd p) M M' → (rdA t L).1 = some b → Q (some (vI b)) M') : Ok G mX4_readInto d 0 0 [vR 4, vR p] M Q := by
  obtain ⟨d, rfl⟩ : ∃ e, d = e + 1 := ⟨d - 1, by omega⟩
  refine Ok_of rfl (Nat.le_of_ble_eq_true rfl) rfl ?_
  have hp := k7_at hk
  refine bX4_readInto_0 _ hk hS (ok7_clear hk hS fun M1 c1 hw1 => ⟨rfl, hS.ch c1, ?_⟩)
  rintro _ rfl
  have c2 : Ch (Prd p) M (stI M1 4 2 0) := (c1.mono fun q hq => Or.inr (Or.inr hq)).st (Or.inl rfl)
  refine down (fun i => ∀ M' (a : Nat) (w : WT), Ch (Prd p) M M' → CW M' p w → WOk w → gI M' 4 2 = (a : Nat) → rdW t L (200 - i) a w = rdA t L → Wp G mX4_readInto (d + 1) 0 0 11 [some (vR 4), some (vR p), some (vI (i : Int)), none] [] M' 0 0 Q) (n := 200) ?_ ?_ 0 (Nat.zero_le _) _ 0 w00 c2 (hw1.of fun q hq j => gI_ne _ _ (by unfold Pwo at hq; omega)) w00_ok (gI_same _ _ _ _) rfl
  · intro M' a w c hw hW ha hr
    have e : rdA t L = (none, w) := hr.symm
    have := kn M' c (by rw [e]) (by rw [e]; exact hw)
    exact bX4_readInto_11 _ hk _ (hS.ch c) ⟨fun _ => this, fun h => absurd (by decide) h⟩
  · intro i hi ih M' a w c hw hW ha hr
    have hS' := hS.ch c
    have hT' := hT.rd hk c
    refine bX4_readInto_11 _ hk _ hS' ⟨fun h => absurd h (by omega), fun _ => ok_size1 hS' ⟨_, rfl, hS', ?_⟩⟩
    rw [hT'.1, ha]
    refine ⟨fun h => ?_, fun h => ?_⟩
    · rw [rdW_e (by omega)] at hr
      exact kn M' c (by rw [← hr]) (by rw [← hr]; exact hw)
    · obtain ⟨f, hf⟩ : ∃ f, 200 - i = f + 1 := ⟨200 - i - 1, by omega⟩
      rw [hf] at hr
      refine ok4_readItem (w := w) (by omega) hk hS' hT' hw hW ha (by omega) (fun hni M2 c2 => ⟨_, rfl, hS'.ch c2, fun z => absurd rfl z, fun _ => ?_⟩) (fun hi2 M2 c2 hw2 g2 => ⟨_, rfl, hS'.ch c2, fun _ => ⟨⟨by omega, by omega⟩, ih M2 _ _ (c.tr c2) hw2 (hW.adI hi2.2.2) g2 ?_⟩, fun z => absurd z (by decide)⟩)
      · rw [rdW_n (by omega) hni] at hr
        exact kf M2 a (c.tr c2) (by rw [← hr])
      · rw [rdW_y (by omega) hi2] at hr
        rw [show 200 - (i + 1) = f by omega]
        exact hr
theorem ok8_fault (hd : 5 ≤ d) (hS : ShX M) (hT : TXv M L t) (kk : ∀ M', Ch (Prd (gR M 1 3)) M M' → Q (some (vI (aFault t L))) M') : Ok G mX8_fault d 0 0 [vR 1] M Q := by
  obtain ⟨d, rfl⟩ : ∃ e, d = e + 1 := ⟨d - 1, by omega⟩
  refine Ok_of rfl (Nat.le_of_ble_eq_true rfl) rfl ?_
  unfold aFault at kk
  refine bX8_fault_0 hS (ok4_readInto (by omega) (xdraft hS) hS hT (fun M' c e _ => ⟨_, rfl, hS.ch c, ?_⟩) (fun M' b c e => ⟨_, rfl, hS.ch c, ?_⟩))
  · have := kk M' c
    rw [e] at this
    exact this
  · have := kk M' c
    rw [e] at this
    exact this
end READX
