/-! ===== the reference: a day goes by, rows are copied ===== -/
theorem MW.of {M M' : MM} {w : WT} (h : MW M w) (e : ∀ q j, q = 96 ∨ q = 99 ∨ q = 100 ∨ q = 101 ∨ q = 102 ∨ q = 103 ∨ q = 104 ∨ q = 105 → gI M' q j = gI M q j) : MW M' w := by
  unfold MW
  rw [e 96 5 (by omega), e 96 9 (by omega), e 96 10 (by omega), e 96 13 (by omega), e 96 15 (by omega)]
  refine ⟨h.1, fun t ht => ?_, fun i hi => ?_, fun b hb => ?_, fun x hx j hj => ?_⟩
  · rw [e 99 t (by omega), e 100 t (by omega), e 101 t (by omega)]; exact h.2.1 t ht
  · rw [e 102 i (by omega), e 103 i (by omega)]; exact h.2.2.1 i hi
  · rw [e 104 b (by omega)]; exact h.2.2.2.1 b hb
  · rw [e 105 _ (by omega)]; exact h.2.2.2.2 x hx j hj
/-- the row alone changes, and there only in the thirteen entries from base on -/
def ChR (base : Nat) (M M' : MM) : Prop := M'.1 = M.1 ∧ M'.2.2 = M.2.2 ∧ (∀ q j, q ≠ 97 → gI M' q j = gI M q j) ∧ ∀ j, (j < base ∨ base + 13 ≤ j) → gI M' 97 j = gI M 97 j
theorem ChR.rf {b : Nat} {M : MM} : ChR b M M := ⟨rfl, rfl, fun _ _ _ => rfl, fun _ _ => rfl⟩
theorem ChR.tr {b : Nat} {A B C : MM} (h1 : ChR b A B) (h2 : ChR b B C) : ChR b A C := ⟨h2.1.trans h1.1, h2.2.1.trans h1.2.1, fun q j h => (h2.2.2.1 q j h).trans (h1.2.2.1 q j h), fun j h => (h2.2.2.2 j h).trans (h1.2.2.2 j h)⟩
theorem ChR.st {b k : Nat} {A B : MM} {x : Int} (h : ChR b A B) (h1 : b ≤ k) (h2 : k < b + 13) : ChR b A (stI B 97 k x) := ⟨h.1, h.2.1, fun q j hq => (gI_ne B x (by omega)).trans (h.2.2.1 q j hq), fun j hj => (gI_ne B x (by omega)).trans (h.2.2.2 j hj)⟩
theorem ChR.sh {b : Nat} {A B : MM} (h : ChR b A B) (hS : ShM A) : ShM B := hS.of h.2.1
theorem ChR.mw {b : Nat} {A B : MM} {w : WT} (h : ChR b A B) (hw : MW A w) : MW B w := hw.of fun q j hq => h.2.2.1 q j (by omega)
theorem RV.of {b c : Nat} {A B : MM} {s : WT} (h : RV A c s) (e : ChR b A B) (hbc : c + 13 ≤ b ∨ b + 13 ≤ c) : RV B c s := by
  refine ⟨fun i hi => ?_, ?_⟩
  · rw [e.2.2.2 (c + i) (by omega), e.2.2.2 (c + 4 + i) (by omega), e.2.2.2 (c + 8 + i) (by omega)]
    exact h.1 i hi
  · rw [e.2.2.2 (c + 12) (by omega)]
    exact h.2
section MDAY
variable {G : GG} {M : MM} {d : Nat} {Q : Option AV → MM → Prop}
theorem ok9_copy {a b : Nat} {s : WT} (hS : ShM M) (hR : RV M a s) (ha : a ≤ 143) (hb : b ≤ 143) (hab : a + 13 ≤ b ∨ b + 13 ≤ a) (kk : ∀ M', ChR b M M' → RV M' b s → Q none M') : Ok G mX9_copy d 0 0 [vR 96, vI a, vI b] M Q := by
  refine Ok_of rfl (Nat.le_of_ble_eq_true rfl) rfl ?_
  refine bX9_copy_0 _ _ hS ?_
  refine down (fun i => ∀ M', ChR b M M' → (∀ j, j < i → gI M' 97 (b + j) = gI M 97 (a + j)) → Wp G mX9_copy d 0 0 2 [some (vR 96), some (vI a), some (vI b), some (vI (i : Int))] [] M' 0 0 Q) (n := 13) ?_ ?_ 0 (Nat.zero_le _) M ChR.rf (fun j hj => absurd hj (Nat.not_lt_zero j))
  · intro M' hc hj
    refine bX9_copy_2 _ _ _ (hc.sh hS) ⟨fun _ => kk M' hc ⟨fun i hi => ?_, ?_⟩, fun h => absurd h (by decide)⟩
    · have h1 := hj i (by omega)
      have h2 := hj (4 + i) (by omega)
      have h3 := hj (8 + i) (by omega)
      rw [← Nat.add_assoc, ← Nat.add_assoc] at h2 h3
      rw [h1, h2, h3]
      exact hR.1 i hi
    · rw [hj 12 (by omega)]
      exact hR.2
  · intro i hi ih M' hc hj
    refine bX9_copy_2 _ _ _ (hc.sh hS) ⟨fun h => absurd h (by omega), fun _ => ⟨⟨by omega, by omega⟩, ⟨by omega, by omega⟩, by omega, by omega, ?_⟩⟩
    rw [show ((a : Int) + (i : Int)).toNat = a + i by omega, show ((b : Int) + (i : Int)).toNat = b + i by omega]
    rintro M2 hM2
    have c2 : ChR b M M2 := by rw [hM2]; exact hc.st (by omega) (by omega)
    refine ⟨⟨by omega, by omega⟩, ih M2 c2 (fun j hj2 => ?_)⟩
    rw [hM2]
    by_cases e : j = i
    · subst e
      rw [gI_same]
      exact hc.2.2.2 (a + j) (by omega)
    · rw [gI_ne _ _ (by omega)]
      exact hj j (by omega)
theorem ok9_bindIn {base b x : Nat} (hS : ShM M) (hb : base ≤ 143) (h4 : b < 4) (kk : Q none (stI (stI M 97 (base + b) x) 97 (base + 4 + b) 0)) : Ok G mX9_bindIn d 0 0 [vR 96, vI base, vI b, vI x] M Q := by
  refine Ok_of rfl (Nat.le_of_ble_eq_true rfl) rfl ?_
  refine bX9_bindIn_0 _ _ _ hS ⟨⟨by omega, by omega⟩, ⟨by omega, by omega⟩, by omega, ?_⟩
  rw [show ((base : Int) + 0 + (b : Int)).toNat = base + b by omega, show ((base : Int) + 4 + (b : Int)).toNat = base + 4 + b by omega]
  rintro _ rfl
  refine ⟨⟨by omega, by omega⟩, ⟨by omega, by omega⟩, by omega, ?_⟩
  rintro _ rfl
  exact kk
theorem ok9_lentIn {f : Nat} {w : WT} (hd : 1 ≤ d) (hS : ShM M) (hw : MW M w) (hW : WOk w) (hf : f < 1024) (kk : ∀ r : Nat, nd f r = nd f (km w 2) → Q (some (vI r)) M) : Ok G mX9_lentIn d 0 0 [vR 96, vI f] M Q := by
  obtain ⟨d, rfl⟩ : ∃ e, d = e + 1 := ⟨d - 1, by omega⟩
  refine Ok_of rfl (Nat.le_of_ble_eq_true rfl) rfl ?_
  refine bX9_lentIn_0 _ hS ?_
  have e0 := hw.1.1
  have hn := hW.1.1
  refine down (fun i => Wp G mX9_lentIn (d + 1) 0 0 4 [some (vR 96), some (vI f), some (vI (mk (fun t => f.testBit t && w 2 t == 2) i : Nat)), some (vI (i : Int))] [] M 0 0 Q) (n := w 0 0) ?_ ?_ 0 (Nat.zero_le _)
  · refine bX9_lentIn_4 _ _ _ hS ⟨fun _ => kk _ ?_, fun h => absurd h (by omega)⟩
    apply Nat.eq_of_testBit_eq
    intro i
    rw [nd_bit, nd_bit, mk_bit]
    unfold km
    rw [mk_bit]
    cases f.testBit i <;> simp
  · intro i hi ih
    have h1 : mk (fun t => f.testBit t && w 2 t == 2) i < 2 ^ 10 := mk_lt (by omega)
    have hp : 2 ^ i < 2 ^ 10 := Nat.pow_lt_pow_right (by decide) (by omega)
    rw [mk_succ] at ih
    refine bX9_lentIn_4 _ _ _ hS ⟨fun h => absurd h (by omega), fun _ => ok_has (by omega) (by omega) ⟨_, rfl, hS, ?_⟩⟩
    rw [Int.toNat_natCast, (hw.2.1 i hi).2.1, ishl_1 (by omega)]
    cases hb : f.testBit i
    · rw [hb] at ih
      refine ⟨fun _ => ⟨⟨by omega, by omega⟩, ?_⟩, fun h => absurd rfl h⟩
      rw [show (0 : Int) = ((0 : Nat) : Int) from rfl, ior_n (by omega) (by omega)]
      exact ih
    · rw [hb] at ih
      refine ⟨fun h => absurd h (by decide), fun _ => ⟨by omega, ⟨by omega, by omega⟩, ?_⟩⟩
      by_cases h3 : w 2 i = 2
      · rw [if_pos (by simpa using h3)] at ih
        rw [if_pos (by omega), ior_n (by omega) (by omega)]
        exact ih
      · rw [if_neg (by simpa using h3)] at ih
        rw [if_neg (by omega), show (0 : Int) = ((0 : Nat) : Int) from rfl, ior_n (by omega) (by omega)]
        exact ih
/-- the State while the reference counts the day -/
def midR (w s : WT) (i : Nat) : WT := fun j b => if j = 3 then s 3 b else if b < i then dayS w s j b else s j b
theorem ok9_dayIn {base : Nat} {w s : WT} (hd : 2 ≤ d) (hS : ShM M) (hw : MW M w) (hW : WOk w) (hR : RV M base s) (hI : SI w s) (hdy : s 3 0 ≤ 1900) (hb : base ≤ 143) (kk : ∀ M', ChR base M M' → RV M' base (dayS w s) → Q (some (vI (escS w s : Nat))) M') : Ok G mX9_dayIn d 0 0 [vR 96, vI base] M Q := by
  obtain ⟨d, rfl⟩ : ∃ e, d = e + 1 := ⟨d - 1, by omega⟩
  refine Ok_of rfl (Nat.le_of_ble_eq_true rfl) rfl ?_
  refine bX9_dayIn_0 _ hS ?_
  have e0 := hw.1.2.2.2.1
  have h4 := hW.1.2.2.2.1
  have v0 : RV M base (midR w s 0) := ⟨fun b hb => hR.1 b hb, hR.2⟩
  refine down (fun i => ∀ M', ChR base M M' → RV M' base (midR w s i) → Wp G mX9_dayIn (d + 1) 0 0 4 [some (vR 96), some (vI base), some (vI (sm (escB w s) i : Nat)), some (vI (i : Int))] [] M' 0 0 Q) (n := w 0 3) ?_ ?_ 0 (Nat.zero_le _) M ChR.rf v0
  · intro M' hc hv
    have hw' := hc.mw hw
    refine bX9_dayIn_4 _ _ _ (hc.sh hS) ⟨fun _ => ⟨⟨by omega, by omega⟩, by omega, ?_⟩, fun h => absurd h (by have := hw'.1.2.2.2.1; omega)⟩
    rw [show ((base : Int) + 12).toNat = base + 12 by omega, hv.2]
    have e3 : midR w s (w 0 3) 3 0 = s 3 0 := rfl
    rw [e3]
    refine ⟨⟨by omega, by omega⟩, ?_⟩
    rintro M2 hM2
    have c2 : ChR base M M2 := by rw [hM2]; exact hc.st (by omega) (by omega)
    have ez : ∀ b, w 0 3 ≤ b → b < 4 → escB w s b = 0 ∧ ∀ j, j < 3 → dayS w s j b = s j b := fun b h1 h2 => by
      have hz := (hI.1 b h2).2.1 h1
      refine ⟨by unfold escB; rw [if_pos hz], fun j hj => ?_⟩
      unfold dayS
      rw [if_neg (by omega), if_pos hz]
    have es : sm (escB w s) (w 0 3) = escS w s := by
      unfold escS
      have key : ∀ m, w 0 3 ≤ m → m ≤ 4 → sm (escB w s) m = sm (escB w s) (w 0 3) := by
        intro m
        induction m with
        | zero => intro h1 _; rw [show w 0 3 = 0 by omega]
        | succ m ih =>
          intro h1 h2
          rcases Nat.lt_or_ge m (w 0 3) with q | q
          · rw [show w 0 3 = m + 1 by omega]
          · show sm (escB w s) m + escB w s m = _
            rw [ih q (by omega), (ez m q (by omega)).1, Nat.add_zero]
      exact (key 4 h4 (Nat.le_refl _)).symm
    rw [es]
    refine kk M2 c2 ⟨fun b hb => ?_, ?_⟩
    · rw [hM2, gI_ne _ _ (by omega), gI_ne _ _ (by omega), gI_ne _ _ (by omega)]
      have := hv.1 b hb
      simp only [midR, show ¬ (0 = 3) by decide, show ¬ (1 = 3) by decide, show ¬ (2 = 3) by decide, if_false] at this
      by_cases h : b < w 0 3
      · rw [if_pos h, if_pos h, if_pos h] at this
        exact this
      · rw [if_neg h, if_neg h, if_neg h] at this
        rw [(ez b (by omega) hb).2 0 (by decide), (ez b (by omega) hb).2 1 (by decide), (ez b (by omega) hb).2 2 (by decide)]
        exact this
    · rw [hM2, gI_same]
      rfl
  · intro i hi ih M' hc hv
    have hw' := hc.mw hw
    have hS' := hc.sh hS
    have hle := sm_le (f := escB w s) (c := 1) (n := i) (fun j _ => by unfold escB; split; omega; split; omega; split <;> omega)
    have es : sm (escB w s) (i + 1) = sm (escB w s) i + escB w s i := rfl
    obtain ⟨b1, b2, b3, b4, b5, b6⟩ := hI.1 i (by omega)
    obtain ⟨v1, v2, v3⟩ := hv.1 i (by omega)
    have n0 : ¬ i < i := by omega
    simp only [midR, if_neg n0, show ¬ (0 = 3) by decide, show ¬ (1 = 3) by decide, show ¬ (2 = 3) by decide, if_false] at v1 v2 v3
    have hpull : gI M' 104 i = w 7 i := hw'.2.2.2.1 i hi
    have hlt : s 0 i < 1024 := set_lt hW b1
    have fin : ∀ M2, (∀ b, b < 4 → b ≠ i → gI M2 97 (base + b) = gI M' 97 (base + b) ∧ gI M2 97 (base + 4 + b) = gI M' 97 (base + 4 + b) ∧ gI M2 97 (base + 8 + b) = gI M' 97 (base + 8 + b)) → gI M2 97 (base + 12) = gI M' 97 (base + 12) → gI M2 97 (base + i) = (dayS w s 0 i : Nat) → gI M2 97 (base + 4 + i) = (dayS w s 1 i : Nat) → gI M2 97 (base + 8 + i) = (dayS w s 2 i : Nat) → RV M2 base (midR w s (i + 1)) := by
      intro M2 e e0 e1 e2 e3
      refine ⟨fun b hb => ?_, ?_⟩
      · by_cases hbi : b = i
        · subst hbi
          simp only [midR, show b < b + 1 by omega, show ¬ (0 = 3) by decide, show ¬ (1 = 3) by decide, show ¬ (2 = 3) by decide, if_false, if_true]
          exact ⟨e1, e2, e3⟩
        · obtain ⟨a1, a2, a3⟩ := e b hb hbi
          rw [a1, a2, a3]
          have := hv.1 b hb
          simp only [midR, show ¬ (0 = 3) by decide, show ¬ (1 = 3) by decide, show ¬ (2 = 3) by decide, if_false] at this ⊢
          by_cases h : b < i
          · rw [if_pos h, if_pos h, if_pos h] at this
            rw [if_pos (by omega), if_pos (by omega), if_pos (by omega)]
            exact this
          · rw [if_neg h, if_neg h, if_neg h] at this
            rw [if_neg (by omega), if_neg (by omega), if_neg (by omega)]
            exact this
      · rw [e0, hv.2]
        rfl
    refine bX9_dayIn_4 _ _ _ hS' ⟨fun h => absurd h (by have := hw'.1.2.2.2.1; omega), fun _ => ⟨⟨by omega, by omega⟩, ⟨by omega, by omega⟩, by omega, ?_⟩⟩
    rw [show ((base : Int) + 0 + (i : Int)).toNat = base + i by omega, show ((base : Int) + 4 + (i : Int)).toNat = base + 4 + i by omega, show ((base : Int) + 8 + (i : Int)).toNat = base + 8 + i by omega, Int.toNat_natCast, v1, v2]
    refine ⟨fun hz => ⟨⟨by omega, by omega⟩, ?_⟩, fun hne => ?_⟩
    · have hz : s 0 i = 0 := by omega
      have ee : escB w s i = 0 := by unfold escB; rw [if_pos hz]
      rw [show sm (escB w s) i = sm (escB w s) (i + 1) by rw [es, ee, Nat.add_zero]]
      refine ih M' hc (fin M' (fun b hb hbi => ⟨rfl, rfl, rfl⟩) rfl ?_ ?_ ?_)
      · rw [v1]
        simp [dayS, hz]
      · rw [v2]
        simp [dayS, hz]
      · rw [v3]
        simp [dayS, hz]
    · have hne : s 0 i ≠ 0 := by omega
      refine ⟨⟨by omega, by omega⟩, ⟨by omega, by omega⟩, by omega, ⟨by omega, by omega⟩, ?_⟩
      rintro M1 hM1
      have c1 : ChR base M M1 := by rw [hM1]; exact hc.st (by omega) (by omega)
      have a1 : gI M1 97 (base + 4 + i) = ((s 1 i + 1 : Nat) : Int) := by rw [hM1, gI_same]; rfl
      have r1 : gI M1 97 (base + i) = (s 0 i : Nat) := by rw [hM1, gI_ne _ _ (by omega)]; exact v1
      have x1 : gI M1 97 (base + 8 + i) = (s 2 i : Nat) := by rw [hM1, gI_ne _ _ (by omega)]; exact v3
      have p1 : gI M1 104 i = w 7 i := (c1.mw hw).2.2.2.1 i hi
      have w1 := c1.mw hw
      have S1 := c1.sh hS
      rw [a1, r1]
      refine ⟨⟨by omega, by omega⟩, ⟨by omega, by omega⟩, fun h3 => ?_, fun h3 => ?_⟩
      · have h3 : s 1 i + 1 ≠ 3 := by omega
        refine ⟨⟨by omega, by omega⟩, ⟨by omega, by omega⟩, ok9_strengthOf (by omega) S1 w1 hW hlt ⟨_, rfl, S1, by omega, ?_⟩⟩
        rw [p1]
        have := b4 hne
        refine ⟨fun _ => ⟨⟨by omega, by omega⟩, ?_⟩, fun h => absurd h (by omega)⟩
        have ee : escB w s i = 0 := by unfold escB; rw [if_neg hne, if_pos h3]
        rw [show sm (escB w s) i = sm (escB w s) (i + 1) by rw [es, ee, Nat.add_zero]]
        refine ih M1 c1 (fin M1 (fun b hb hbi => ?_) ?_ ?_ ?_ ?_)
        · rw [hM1, gI_ne _ _ (by omega), gI_ne _ _ (by omega), gI_ne _ _ (by omega)]
          exact ⟨rfl, rfl, rfl⟩
        · rw [hM1, gI_ne _ _ (by omega)]
        · rw [r1]
          simp [dayS, hne, h3]
        · rw [a1]
          simp [dayS, hne, h3]
        · rw [x1]
          simp [dayS, hne, h3]
      · have h3 : s 1 i + 1 = 3 := by omega
        refine ⟨⟨by omega, by omega⟩, ⟨by omega, by omega⟩, ⟨by omega, by omega⟩, ⟨by omega, by omega⟩, ok9_lentIn (by omega) S1 w1 hW hlt (fun r hr => ⟨_, rfl, S1, ?_⟩)⟩
        rw [ind_n (by omega), hr]
        rintro M2 hM2
        have c2 : ChR base M M2 := by rw [hM2]; exact c1.st (by omega) (by omega)
        have r2 : gI M2 97 (base + i) = (nd (s 0 i) (km w 2) : Nat) := by rw [hM2, gI_same]
        have a2 : gI M2 97 (base + 4 + i) = ((s 1 i + 1 : Nat) : Int) := by rw [hM2, gI_ne _ _ (by omega)]; exact a1
        have x2 : gI M2 97 (base + 8 + i) = (s 2 i : Nat) := by rw [hM2, gI_ne _ _ (by omega)]; exact x1
        have p2 : gI M2 104 i = w 7 i := (c2.mw hw).2.2.2.1 i hi
        have hnd : nd (s 0 i) (km w 2) < 1024 := nd_lt (k := 10) hlt
        rw [r2]
        refine ⟨⟨by omega, by omega⟩, ⟨by omega, by omega⟩, ok9_strengthOf (by omega) (c2.sh hS) (c2.mw hw) hW hnd ⟨_, rfl, c2.sh hS, by omega, ?_⟩⟩
        rw [p2]
        refine ⟨fun hle2 => ⟨⟨by omega, by omega⟩, ?_⟩, fun hnle => ?_⟩
        · have hle2 : ¬ str w (nd (s 0 i) (km w 2)) < w 7 i := by omega
          have ee : escB w s i = 0 := by unfold escB; rw [if_neg hne, if_neg (by omega), if_neg hle2]
          rw [show sm (escB w s) i = sm (escB w s) (i + 1) by rw [es, ee, Nat.add_zero]]
          refine ih M2 c2 (fin M2 (fun b hb hbi => ?_) ?_ ?_ ?_ ?_)
          · rw [hM2, gI_ne _ _ (by omega), gI_ne _ _ (by omega), gI_ne _ _ (by omega), hM1, gI_ne _ _ (by omega), gI_ne _ _ (by omega), gI_ne _ _ (by omega)]
            exact ⟨rfl, rfl, rfl⟩
          · rw [hM2, gI_ne _ _ (by omega), hM1, gI_ne _ _ (by omega)]
          · rw [r2]
            simp [dayS, hne, h3, hle2]
          · rw [a2, h3]
            simp [dayS, hne, h3, hle2]
          · rw [x2]
            simp [dayS, hne, h3, hle2]
        · have hlt2 : str w (nd (s 0 i) (km w 2)) < w 7 i := by omega
          have ee : escB w s i = 1 := by unfold escB; rw [if_neg hne, if_neg (by omega), if_pos hlt2]
          refine ok9_bindIn (x := 0) (c2.sh hS) hb (by omega) ⟨rfl, ?_⟩
          have c3 : ChR base M (stI (stI M2 97 (base + i) ((0 : Nat) : Int)) 97 (base + 4 + i) 0) := (c2.st (by omega) (by omega)).st (by omega) (by omega)
          generalize hM3 : stI (stI M2 97 (base + i) ((0 : Nat) : Int)) 97 (base + 4 + i) 0 = M3 at c3
          have x3 : gI M3 97 (base + 8 + i) = (s 2 i : Nat) := by rw [← hM3, gI_ne _ _ (by omega), gI_ne _ _ (by omega)]; exact x2
          refine ⟨c3.sh hS, ⟨by omega, by omega⟩, ⟨by omega, by omega⟩, by omega, ?_⟩
          rw [x3]
          refine ⟨⟨by omega, by omega⟩, ?_⟩
          rintro M4 hM4
          have c4 : ChR base M M4 := by rw [hM4]; exact c3.st (by omega) (by omega)
          refine ⟨⟨by omega, by omega⟩, ⟨by omega, by omega⟩, ?_⟩
          have e9 : ((sm (escB w s) i : Nat) : Int) + 1 = ((sm (escB w s) (i + 1) : Nat) : Int) := by rw [es, ee]; rfl
          rw [e9]
          refine ih M4 c4 (fin M4 (fun b hb hbi => ?_) ?_ ?_ ?_ ?_)
          · rw [hM4, ← hM3, hM2, hM1]
            simp only [gI_st]
            refine ⟨?_, ?_, ?_⟩
            · rw [if_neg (by omega), if_neg (by omega), if_neg (by omega), if_neg (by omega), if_neg (by omega)]
            · rw [if_neg (by omega), if_neg (by omega), if_neg (by omega), if_neg (by omega), if_neg (by omega)]
            · rw [if_neg (by omega), if_neg (by omega), if_neg (by omega), if_neg (by omega), if_neg (by omega)]
          · rw [hM4, gI_ne _ _ (by omega), ← hM3, gI_ne _ _ (by omega), gI_ne _ _ (by omega), hM2, gI_ne _ _ (by omega), hM1, gI_ne _ _ (by omega)]
          · rw [hM4, gI_ne _ _ (by omega), ← hM3, gI_ne _ _ (by omega), gI_same]
            simp [dayS, hne, h3, hlt2]
          · rw [hM4, gI_ne _ _ (by omega), ← hM3, gI_same]
            simp [dayS, hne, h3, hlt2]
          · rw [hM4, gI_same]
            simp [dayS, hne, h3, hlt2]
end MDAY
