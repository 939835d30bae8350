/-! ===== the tables are filled ===== -/
theorem ishl_0 {k : Nat} (hk : k < 31) : ishlv 0 (k : Int) = 0 := by
  unfold ishlv
  rw [show (0 : Int) = ((0 : Nat) : Int) from rfl, o_nat, o_nat, pk_shlN _ k (s_l32 k (by omega)) (by omega), Nat.zero_mul, nI_ti (by decide)]
section FILL
variable {G : GG} {M : MM} {d : Nat} {Q : Option AV → MM → Prop}
theorem ok_spread {p s : Nat} {w : WT} (hd : 2 ≤ d) (hk : kd p = 7) (hS : ShX M) (hw : CW M p w) (hW : WOk w) (hs : s < 2 ^ w 0 0) (kk : Q (some (vI (fol w s : Nat))) M) : Ok G mX6_spread d 0 0 [vR p, vI s] M Q := by
  obtain ⟨d, rfl⟩ : ∃ e, d = e + 1 := ⟨d - 1, by omega⟩
  refine Ok_of rfl (Nat.le_of_ble_eq_true rfl) rfl ?_
  refine bX6_spread_0 _ hk _ hS ?_
  have e0 : gI M p 0 = w 0 0 := hw.1 0 (by decide)
  have e1 : gI M p 1 = w 0 1 := hw.1 1 (by decide)
  have hb := hW.1
  have hF := fol_lt hW hs
  have hF2 := set_lt hW hF
  have hfix := fol_fix hW hs
  refine down (fun r => ∀ v : Nat, sub (itr w r s) v → sub v (fol w s) → Wp G mX6_spread (d + 1) 0 0 4 [some (vR p), none, some (vI (v : Int)), some (vI (r : Int)), none] [] M 0 0 Q) (n := w 0 0) ?_ ?_ 0 (Nat.zero_le _) s sub_rf fol_sub
  · intro v h1 h2
    have : v = fol w s := sub_eq h2 h1
    subst this
    exact bX6_spread_4 _ hk _ _ hS ⟨fun _ => kk, fun h => absurd h (by omega)⟩
  · intro r hr ih v h1 h2
    refine bX6_spread_4 _ hk _ _ hS ⟨fun h => absurd h (by omega), fun _ => ?_⟩
    refine down (fun i => ∀ u : Nat, sub v u → sub u (fol w s) → (∀ j, j < i → v.testBit (w 4 j) = true → u.testBit (w 3 j) = true) → Wp G mX6_spread (d + 1) 0 0 15 [some (vR p), none, some (vI (u : Int)), some (vI (r : Int)), some (vI (i : Int))] [] M 0 0 Q) (n := w 0 1) ?_ ?_ 0 (Nat.zero_le _) v sub_rf h2 (fun j hj => absurd hj (Nat.not_lt_zero j))
    · intro u a1 a2 a3
      refine bX6_spread_15 _ hk _ _ _ hS ⟨fun _ => ⟨⟨by omega, by omega⟩, ih u (fun j hj => ?_) a2⟩, fun h => absurd h (by omega)⟩
      rcases stp_bit.mp hj with q | ⟨i, q1, q2, q3⟩
      · exact a1 j (h1 j q)
      · rw [← q3]
        exact a3 i q1 (h1 _ q2)
    · intro i hi ih2 u a1 a2 a3
      have hu : u < 1024 := Nat.lt_of_lt_of_le (sub_lt a2 hF) (pow_le hW)
      obtain ⟨n1, n2⟩ := hW.2.2.1 i hi
      refine bX6_spread_15 _ hk _ _ _ hS ⟨fun h => absurd h (by omega), fun _ => ok_neededOf (by omega) hk hS hw hW hi ⟨_, rfl, hS, ?_⟩⟩
      rw [bit_n (by omega) (by omega)]
      cases hbt : u.testBit (w 4 i)
      · refine ⟨fun _ => ⟨⟨by omega, by omega⟩, ih2 u a1 a2 (fun j hj hv => ?_)⟩, fun h => absurd h (by simp)⟩
        rcases Nat.lt_or_ge j i with q | q
        · exact a3 j q hv
        · rw [show j = i by omega] at hv
          rw [a1 _ hv] at hbt
          cases hbt
      · refine ⟨fun h => absurd rfl h, fun _ => ok_neederOf (by omega) hk hS hw hW hi ⟨_, rfl, hS, ⟨by omega, by omega⟩, ?_⟩⟩
        have hp : 2 ^ w 3 i < 2 ^ w 0 0 := Nat.pow_lt_pow_right (by decide) n1
        have hp2 := pow_le hW
        rw [ishl_1 (by omega), ior_n (by omega) (by omega)]
        refine ih2 (u ||| 2 ^ w 3 i) (sub_tr a1 sub_l) (sub_or.mpr ⟨a2, fun j hj => ?_⟩) (fun j hj hv => ?_)
        · rw [two_pow_bit] at hj
          have hj : w 3 i = j := of_decide_eq_true hj
          rw [← hfix]
          exact stp_bit.mpr (Or.inr ⟨i, hi, a2 _ hbt, hj⟩)
        · rw [Nat.testBit_or]
          rcases Nat.lt_or_ge j i with q | q
          · rw [a3 j q hv]; rfl
          · rw [show j = i by omega, two_pow_bit]
            simp
theorem ok_thoseWhoMiss {p f : Nat} {w : WT} (hd : 2 ≤ d) (hk : kd p = 7) (hS : ShX M) (hw : CW M p w) (hW : WOk w) (hs : f < 1024) (kk : Q (some (vI (mis w f : Nat))) M) : Ok G mX6_thoseWhoMiss d 0 0 [vR p, vI f] M Q := by
  obtain ⟨d, rfl⟩ : ∃ e, d = e + 1 := ⟨d - 1, by omega⟩
  refine Ok_of rfl (Nat.le_of_ble_eq_true rfl) rfl ?_
  refine bX6_thoseWhoMiss_0 _ hk _ hS ?_
  have e2 : gI M p 2 = w 0 2 := hw.1 2 (by decide)
  have hb := hW.1
  refine down (fun i => Wp G mX6_thoseWhoMiss (d + 1) 0 0 4 [some (vR p), some (vI f), some (vI (mk (fun i => f.testBit (w 5 i)) i : Nat)), some (vI (i : Int))] [] M 0 0 Q) (n := w 0 2) ?_ ?_ 0 (Nat.zero_le _)
  · exact bX6_thoseWhoMiss_4 _ hk _ _ _ hS ⟨fun _ => kk, fun h => absurd h (by omega)⟩
  · intro i hi ih
    have h5 := (hW.2.2.2.1 i hi).1
    have h1 : mk (fun i => f.testBit (w 5 i)) i < 2 ^ 10 := mk_lt (by omega)
    have hp : 2 ^ i < 2 ^ 10 := Nat.pow_lt_pow_right (by decide) (by omega)
    refine bX6_thoseWhoMiss_4 _ hk _ _ _ hS ⟨fun h => absurd h (by omega), fun _ => ok_thingOfPerson (by omega) hk hS hw hW hi ⟨_, rfl, hS, ⟨by omega, by omega⟩, ?_⟩⟩
    rw [bit_n (by omega) (by omega)]
    rw [mk_succ] at ih
    cases hb : f.testBit (w 5 i)
    · rw [hb] at ih
      simp only [Bool.false_eq_true, if_false] at ih ⊢
      rw [ishl_0 (by omega), show (0 : Int) = ((0 : Nat) : Int) from rfl, ior_n (by omega) (by decide)]
      exact ih
    · rw [hb] at ih
      simp only [if_true] at ih ⊢
      rw [ishl_1 (by omega), ior_n (by omega) (by omega)]
      exact ih
theorem ok_sumOfWeights {p f : Nat} {w : WT} (hd : 2 ≤ d) (hk : kd p = 7) (hS : ShX M) (hw : CW M p w) (hW : WOk w) (kk : Q (some (vI (lsF w f : Nat))) M) : Ok G mX6_sumOfWeights d 0 0 [vR p, vI (mis w f : Nat)] M Q := by
  obtain ⟨d, rfl⟩ : ∃ e, d = e + 1 := ⟨d - 1, by omega⟩
  refine Ok_of rfl (Nat.le_of_ble_eq_true rfl) rfl ?_
  refine bX6_sumOfWeights_0 _ hk _ hS ?_
  have e2 : gI M p 2 = w 0 2 := hw.1 2 (by decide)
  have hb := hW.1
  have hm := mis_lt hW f
  refine down (fun i => Wp G mX6_sumOfWeights (d + 1) 0 0 4 [some (vR p), some (vI (mis w f : Nat)), some (vI (sm (fun i => if f.testBit (w 5 i) then w 6 i else 0) i : Nat)), some (vI (i : Int))] [] M 0 0 Q) (n := w 0 2) ?_ ?_ 0 (Nat.zero_le _)
  · exact bX6_sumOfWeights_4 _ hk _ _ _ hS ⟨fun _ => kk, fun h => absurd h (by omega)⟩
  · intro i hi ih
    obtain ⟨h5, h6, h7⟩ := hW.2.2.2.1 i hi
    have hle := sm_le (f := fun i => if f.testBit (w 5 i) then w 6 i else 0) (c := 9) (n := i) (fun j hj => by
      have := (hW.2.2.2.1 j (by omega)).2.2
      show (if f.testBit (w 5 j) then w 6 j else 0) ≤ 9
      split <;> omega)
    have es : sm (fun i => if f.testBit (w 5 i) then w 6 i else 0) (i + 1) = sm (fun i => if f.testBit (w 5 i) then w 6 i else 0) i + (if f.testBit (w 5 i) then w 6 i else 0) := rfl
    rw [es] at ih
    generalize sm (fun i => if f.testBit (w 5 i) then w 6 i else 0) i = A at hle ih ⊢
    refine bX6_sumOfWeights_4 _ hk _ _ _ hS ⟨fun h => absurd h (by omega), fun _ => ok_weightOfPerson (by omega) hk hS hw hW hi ⟨_, rfl, hS, ?_⟩⟩
    have eb : (mis w f).testBit i = f.testBit (w 5 i) := by
      unfold mis
      rw [mk_bit]
      simp [hi]
    rw [bit_n (by omega) (by omega), eb]
    cases hb : f.testBit (w 5 i)
    · rw [hb] at ih
      simp only [Bool.false_eq_true, if_false, Int.zero_mul, Int.add_zero, Nat.add_zero] at ih ⊢
      exact ⟨⟨by omega, by omega⟩, ⟨by omega, by omega⟩, ⟨by omega, by omega⟩, ih⟩
    · rw [hb] at ih
      simp only [if_true, Int.one_mul] at ih ⊢
      exact ⟨⟨by omega, by omega⟩, ⟨by omega, by omega⟩, ⟨by omega, by omega⟩, ih⟩
theorem k7_at {p : Nat} (h : kd p = 7) : p = 6 ∨ p = 18 := by
  have hp := (kd_in (p := p) (by omega)).2
  exact (by decide +kernel : ∀ p, p < 111 → kd p = 7 → p = 6 ∨ p = 18) p (by omega) h
/-- four entries of the tables -/
def TBs (M : MM) (w : WT) (s : Nat) : Prop := gI M 31 s = (str w s : Nat) ∧ gI M 32 s = (fol w s : Nat) ∧ gI M 33 s = (mis w (fol w s) : Nat) ∧ gI M 34 s = (los w s : Nat)
theorem ok_fillFrom {p : Nat} {w : WT} (hd : 3 ≤ d) (hk : kd p = 7) (hS : ShX M) (hw : CW M p w) (hW : WOk w) (kk : ∀ M', Ch Ptb M M' → TB M' w → Q none M') : Ok G mX6_fillFrom d 0 0 [vR 30, vR p] M Q := by
  obtain ⟨d, rfl⟩ : ∃ e, d = e + 1 := ⟨d - 1, by omega⟩
  refine Ok_of rfl (Nat.le_of_ble_eq_true rfl) rfl ?_
  refine bX6_fillFrom_0 _ hk hS ?_
  have e0 : gI M p 0 = w 0 0 := hw.1 0 (by decide)
  have hb := hW.1
  have hp2 := pow_le hW
  have hpos := Nat.two_pow_pos (w 0 0)
  have hat := k7_at hk
  have hcw : ∀ M', Ch Ptb M M' → CW M' p w := fun M' hc => hw.of fun q hq j => hc.2.2 q j (by unfold Ptb; unfold Pwo at hq; omega)
  rintro _ rfl
  rw [e0, ishl_1 (by omega)]
  have e1 : (if ((2 ^ w 0 0 : Nat) : Int) < 1024 then ((2 ^ w 0 0 : Nat) : Int) else 1024) = ((2 ^ w 0 0 : Nat) : Int) := by split <;> omega
  rw [e1]
  refine down (fun i => ∀ M', Ch Ptb M M' → gI M' 30 0 = ((2 ^ w 0 0 : Nat) : Int) → (∀ s, s < i → TBs M' w s) → Wp G mX6_fillFrom (d + 1) 0 0 18 [some (vR 30), some (vR p), some (vI (i : Int))] [] M' 0 0 Q) (n := 2 ^ w 0 0) ?_ ?_ 0 (Nat.zero_le _) _ (Ch.rf.st (by unfold Ptb; omega)) (gI_same _ _ _ _) (fun s hs => absurd hs (Nat.not_lt_zero s))
  · intro M' hc h0 ht
    exact bX6_fillFrom_18 _ hk _ (hS.ch hc) ⟨fun _ => kk M' hc ⟨h0, ht⟩, fun h => absurd h (by omega)⟩
  · intro i hi ih M' hc h0 ht
    have hi2 : i < 1024 := by omega
    have hF := fol_lt hW hi
    have hF2 := set_lt hW hF
    have P31 : Ptb 31 := by unfold Ptb; omega
    have P32 : Ptb 32 := by unfold Ptb; omega
    have P33 : Ptb 33 := by unfold Ptb; omega
    have P34 : Ptb 34 := by unfold Ptb; omega
    -- the end of a turn, the followers being known
    have tail : ∀ M2, Ch Ptb M M2 → gI M2 30 0 = ((2 ^ w 0 0 : Nat) : Int) → (∀ s, s < i → TBs M2 w s) → gI M2 31 i = (str w i : Nat) → ∀ M3, M3 = stI M2 32 i (fol w i : Nat) →
        Ok G mX6_thoseWhoMiss d 0 0 [vR p, vI (gI M3 32 i)] M3 (fun v M25 => ∃ r26 : Int, v = some (vI r26) ∧ ShX M25 ∧ (∀ M27 : MM, M27 = stI M25 33 i r26 → Ok G mX6_sumOfWeights d 0 0 [vR p, vI (gI M27 33 i)] M27 (fun v M28 => ∃ r29 : Int, v = some (vI r29) ∧ ShX M28 ∧ (∀ M30 : MM, M30 = stI M28 34 i r29 → (R32 ((i : Int) + 1) ∧ Wp G mX6_fillFrom (d + 1) 0 0 18 [some (vR 30), some (vR p), some (vI ((i : Int) + 1))] [] M30 0 0 Q))))) := by
      intro M2 c2 z2 t2 s2 M3 hM3
      have c3 : Ch Ptb M M3 := by rw [hM3]; exact c2.st P32
      have f3 : gI M3 32 i = (fol w i : Nat) := by rw [hM3]; exact gI_same _ _ _ _
      rw [f3]
      refine ok_thoseWhoMiss (by omega) hk (hS.ch c3) (hcw _ c3) hW hF2 ⟨_, rfl, hS.ch c3, ?_⟩
      rintro M4 hM4
      have c4 : Ch Ptb M M4 := by rw [hM4]; exact c3.st P33
      have f4 : gI M4 33 i = (mis w (fol w i) : Nat) := by rw [hM4]; exact gI_same _ _ _ _
      rw [f4]
      refine ok_sumOfWeights (by omega) hk (hS.ch c4) (hcw _ c4) hW ⟨_, rfl, hS.ch c4, ?_⟩
      rintro M5 hM5
      refine ⟨⟨by omega, by omega⟩, ih M5 (by rw [hM5]; exact c4.st P34) ?_ ?_⟩
      · rw [hM5, gI_ne _ _ (by omega), hM4, gI_ne _ _ (by omega), hM3, gI_ne _ _ (by omega)]
        exact z2
      · intro s hs
        by_cases e : s = i
        · subst e
          refine ⟨?_, ?_, ?_, ?_⟩
          · rw [hM5, gI_ne _ _ (by omega), hM4, gI_ne _ _ (by omega), hM3, gI_ne _ _ (by omega)]
            exact s2
          · rw [hM5, gI_ne _ _ (by omega), hM4, gI_ne _ _ (by omega)]
            exact f3
          · rw [hM5, gI_ne _ _ (by omega)]
            exact f4
          · rw [hM5]
            exact gI_same _ _ _ _
        · have := t2 s (by omega)
          unfold TBs at this ⊢
          rw [hM5, hM4, hM3]
          simp only [gI_st, e, and_false, if_false]
          exact this
    refine bX6_fillFrom_18 _ hk _ (hS.ch hc) ⟨fun h => absurd h (by omega), fun _ => ⟨fun h => absurd h (by omega), fun _ => ?_⟩⟩
    refine ok_sumOfStrength (by omega) hk (hS.ch hc) (hcw _ hc) hW hi2 ⟨_, rfl, hS.ch hc, by omega, ?_⟩
    rintro M1 hM1
    rw [Int.toNat_natCast] at hM1 ⊢
    have c1 : Ch Ptb M M1 := by rw [hM1]; exact hc.st P31
    have z1 : gI M1 30 0 = ((2 ^ w 0 0 : Nat) : Int) := by rw [hM1, gI_ne _ _ (by omega)]; exact h0
    have s1 : gI M1 31 i = (str w i : Nat) := by rw [hM1]; exact gI_same _ _ _ _
    have t1 : ∀ s, s < i → TBs M1 w s := fun s hs => by
      have := ht s hs
      have e : ¬ s = i := by omega
      unfold TBs at this ⊢
      rw [hM1]
      simp only [gI_st, e, and_false, if_false]
      exact this
    refine ⟨fun hz => ?_, fun hz => ok_bitCount hi2 ⟨_, rfl, hS.ch c1, fun hp => ?_, fun hp => ?_⟩⟩
    · refine ok_spread (by omega) hk (hS.ch c1) (hcw _ c1) hW hi ⟨_, rfl, hS.ch c1, ?_⟩
      exact tail M1 c1 z1 t1 s1
    · obtain ⟨l1, l2, l3, l4, l5, l6, l7⟩ := low_all i hi2
      have hz : i ≠ 0 := by omega
      obtain ⟨l8, l9, l10⟩ := l6 hz
      have hp : pc i 10 ≠ 1 := by omega
      have l11 := l7 hp hz
      rw [l1]
      refine ⟨⟨by omega, by omega⟩, ok_followersOf' (hS.ch c1) (by omega) ⟨_, rfl, hS.ch c1, ⟨by omega, by omega⟩, ?_⟩⟩
      rw [l2]
      refine ok_followersOf' (hS.ch c1) (by omega) ⟨_, rfl, hS.ch c1, ?_⟩
      have hfa := fol_lt hW (s := lowb i) (by omega)
      have hfb := fol_lt hW (s := i ^^^ lowb i) (by omega)
      rw [(t1 (lowb i) l11).2.1, (t1 (i ^^^ lowb i) l9).2.1, ior_n (by omega) (by omega), ← fol_or, l3]
      exact tail M1 c1 z1 t1 s1
    · refine ok_spread (by omega) hk (hS.ch c1) (hcw _ c1) hW hi ⟨_, rfl, hS.ch c1, ?_⟩
      exact tail M1 c1 z1 t1 s1
end FILL
