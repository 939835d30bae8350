/-! ===== gain of the class: find, what comes back ===== -/
section GAINY
variable {G : GG} {M : MM} {d : Nat} {Q : Option AV → MM → Prop} {w s : WT} {p : Nat}
theorem ok0_find (hd : 10 ≤ d) (hk : kd p = 7) (hS : ShX M) (hw : CW M p w) (hW : WOk w)
    (k0 : ∀ M', Ch (fun q => q = 94 ∨ q = 95) M M' → noF w → Q (some (vI 0)) M')
    (k1 : ∀ M' n v, Ch (fun q => q = 94 ∨ q = 95) M M' → isF w n v → gI M' 94 0 = (n : Nat) → (∀ i, i < n → gI M' 95 i = (ch w n v i : Nat)) → gI M' 94 2 = (pG w n v : Nat) → gI M' 94 3 = (pT w n v : Nat) → Q (some (vI 1)) M') : Ok G mX0_find d 0 0 [vR 94, vR p] M Q := by
  obtain ⟨d, rfl⟩ : ∃ e, d = e + 1 := ⟨d - 1, by omega⟩
  refine Ok_of rfl (Nat.le_of_ble_eq_true rfl) rfl ?_
  refine bX0_find_0 _ hk hS ?_
  have hE6 := hW.1.2.2.2.2
  have hp := k7_at hk
  have cwc : ∀ M', Ch (fun q => q = 94 ∨ q = 95) M M' → CW M' p w := fun M' c => hw.of fun q hq j => c.2.2 q j (by unfold Pwo at hq; omega)
  refine down (fun n => 2 ≤ n → ∀ M', Ch (fun q => q = 94 ∨ q = 95) M M' → (∀ n', 1 ≤ n' → n' < n → ∀ v', v' < w 0 4 ^ n' → ¬ GN w n' v') → Wp G mX0_find (d + 1) 0 0 2 [some (vR 94), some (vR p), some (vI (n : Int))] [] M' 0 0 Q) (n := w 0 4 + 2) ?_ ?_ 2 (by omega) (Nat.le_refl _) M Ch.rf (fun n' h1 h2 v' h3 => ?_)
  · intro _ M' c hno
    have e4 := (cwc M' c).1 4 (by decide)
    exact bX0_find_2 _ hk _ (hS.ch c) ⟨fun _ => k0 M' c (fun n h1 h2 => hno n h1 (by omega)), fun h => absurd (by omega) h⟩
  · intro n hn ih h2 M' c hno
    have e4 := (cwc M' c).1 4 (by decide)
    refine bX0_find_2 _ hk _ (hS.ch c) ⟨fun _ => k0 M' c (fun n h1 h2 => hno n h1 (by omega)), fun h => ?_⟩
    rintro _ rfl
    have c2 : Ch (fun q => q = 94 ∨ q = 95) M (stI M' 94 0 (n : Int)) := c.st (Or.inl rfl)
    have chg : ∀ M3, ChG (stI M' 94 0 (n : Int)) M3 → Ch (fun q => q = 94 ∨ q = 95) M M3 := fun M3 c3 => c2.tr ⟨c3.1, c3.2.1, fun q j hq => c3.2.2 q j (by omega)⟩
    refine ok0_extend (G := G) (w := w) (p := p) (n := n) (m := n) (j := 0) (u := 0) (d := d) (by omega) (by omega) hk (hS.ch c2) (cwc _ c2) hW (gI_same _ _ _ _) (by omega) (by omega) (fun k hk => by omega) (fun i hi => by omega)
      (fun M3 c3 _ hn3 => ⟨_, rfl, hS.ch (chg M3 c3), fun _ => ⟨⟨by omega, by omega⟩, ih (by omega) M3 (chg M3 c3) (fun n' a1 a2 v' a3 => ?_)⟩, fun z => absurd rfl z⟩)
      (fun M3 v c3 _ b2 b3 b4 b5 b6 b7 => ⟨_, rfl, hS.ch (chg M3 c3), fun z => absurd z (by decide), fun _ => k1 M3 n v (chg M3 c3) ⟨by omega, ?_, b3, fun v' hv' => b4 v' (by rw [Nat.zero_mul]; exact Nat.zero_le _) hv', hno⟩ ((c3.2.2 94 0 (by omega)).trans (gI_same _ _ _ _)) b5 b6 b7⟩)
    · rcases Nat.lt_or_ge n' n with q | q
      · exact hno n' a1 q v' a3
      · have e : n' = n := by omega
        subst e
        exact hn3 v' (by rw [Nat.zero_mul]; exact Nat.zero_le _) (by rw [Nat.zero_add, Nat.one_mul]; exact a3)
    · rwa [Nat.zero_add, Nat.one_mul] at b2
  · have e : n' = 1 := by omega
    subst e
    rw [Nat.pow_one] at h3
    exact GN_1 hW (by omega)
theorem gcd_ge {a b : Nat} (ha : 1 ≤ a) : 1 ≤ Nat.gcd a b := Nat.gcd_pos_of_pos_left b (by omega)
theorem ok0_above {a b : Nat} (hd : 2 ≤ d) (hS : ShX M) (h2 : gI M 94 2 = (a : Nat)) (h3 : gI M 94 3 = (b : Nat)) (ha : 1 ≤ a ∧ a ≤ 531441) (hb : b ≤ 531441) (kk : Q (some (vI (a / Nat.gcd a b : Nat))) M) : Ok G mX0_above d 0 0 [vR 94] M Q := by
  obtain ⟨d, rfl⟩ : ∃ e, d = e + 1 := ⟨d - 1, by omega⟩
  refine Ok_of rfl (Nat.le_of_ble_eq_true rfl) rfl ?_
  refine bX0_above_0 hS ?_
  rw [h2, h3]
  have hg := gcd_ge (b := b) ha.1
  have hle := Nat.div_le_self a (Nat.gcd a b)
  refine ok8_commonDivisor (by omega) (by omega) hg ⟨_, rfl, hS, by omega, ?_⟩
  rw [tdiv_n]
  generalize a / Nat.gcd a b = q at *
  exact ⟨⟨by omega, by omega⟩, ⟨by omega, by omega⟩, kk⟩
theorem ok0_below {a b : Nat} (hd : 2 ≤ d) (hS : ShX M) (h2 : gI M 94 2 = (a : Nat)) (h3 : gI M 94 3 = (b : Nat)) (ha : 1 ≤ a ∧ a ≤ 531441) (hb : b ≤ 531441) (kk : Q (some (vI (b / Nat.gcd a b : Nat))) M) : Ok G mX0_below d 0 0 [vR 94] M Q := by
  obtain ⟨d, rfl⟩ : ∃ e, d = e + 1 := ⟨d - 1, by omega⟩
  refine Ok_of rfl (Nat.le_of_ble_eq_true rfl) rfl ?_
  refine bX0_below_0 hS ?_
  rw [h2, h3]
  have hg := gcd_ge (b := b) ha.1
  have hle := Nat.div_le_self b (Nat.gcd a b)
  refine ok8_commonDivisor (by omega) (by omega) hg ⟨_, rfl, hS, by omega, ?_⟩
  rw [tdiv_n]
  generalize b / Nat.gcd a b = q at *
  exact ⟨⟨by omega, by omega⟩, ⟨by omega, by omega⟩, kk⟩
theorem ok8_gain {k : Int} (hd : 11 ≤ d) (hX : XIv M w s) (hP : PIv w s) (kk : ∀ M', Ch (fun q => q = 94 ∨ q = 95) M M' → Q (some (vI (aGain w k))) M') : Ok G mX8_gain d 0 0 [vR 1, vI k] M Q := by
  obtain ⟨d, rfl⟩ : ∃ e, d = e + 1 := ⟨d - 1, by omega⟩
  refine Ok_of rfl (Nat.le_of_ble_eq_true rfl) rfl ?_
  have hW := hP.1
  have hS := hX.1
  have hE6 := hW.1.2.2.2.2
  have bad : ¬ (-3 ≤ k ∧ k ≤ 5) → Q (some (vI (-1))) M := fun h => by
    have := kk M Ch.rf
    rwa [aGain_bad h] at this
  refine bX8_gain_0 _ hS ⟨fun h => bad (by omega), fun h => ⟨fun h2 => ?_, fun h2 => bad (by omega)⟩⟩
  refine ok0_find (by omega) (xlaid hS) hS hX.2.1 hW (fun M' c hno => ⟨_, rfl, hS.ch c, fun z => absurd rfl z, fun _ => ?_⟩) (fun M' n v c hf e0 e1 e2 e3 => ⟨_, rfl, hS.ch c, fun _ => ?_, fun z => absurd z (by decide)⟩)
  · have := kk M' c
    rwa [aGain_no (by omega) hno] at this
  · have kk := kk M' c
    rw [aGain_is (by omega) hf] at kk
    obtain ⟨⟨t1, t2⟩, t3, t4⟩ := pTG (v := v) hW (show 0 < w 0 4 by have := hf.1; omega) (show n ≤ 6 by have := hf.1; omega)
    have hS' := hS.ch c
    unfold gAns at kk
    refine ⟨fun z => ?_, fun z => ?_, fun z => ?_, fun z => ?_⟩
    · rw [if_pos z] at kk
      exact ok0_below (by omega) hS' e2 e3 ⟨t3, t4⟩ t2 ⟨_, rfl, hS', kk⟩
    · rw [if_neg (by omega), if_pos z] at kk
      exact ok0_above (by omega) hS' e2 e3 ⟨t3, t4⟩ t2 ⟨_, rfl, hS', kk⟩
    · rw [if_neg (by omega), if_neg (by omega), if_pos z] at kk
      rw [e0]
      exact kk
    · rw [if_neg (by omega), if_neg (by omega), if_neg (by omega)] at kk
      refine ok0_exchangeAt hS' ⟨_, rfl, hS', ?_⟩
      rw [e0]
      by_cases hkn : k < n
      · rw [if_pos hkn] at kk
        rw [if_pos (by omega), e1 k.toNat (by omega)]
        exact kk
      · rw [if_neg hkn] at kk
        rw [if_neg (by omega)]
        exact kk
end GAINY
