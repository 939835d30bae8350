/-! ===== missing, pledge: class and reference ===== -/
def okm (w : WT) (pm p n : Nat) : Prop := mis w (fol w n) = pm ∧ p ≤ str w n
/-- how many, the lowest, what is in all -/
def ms3 (w : WT) (pm p : Nat) : Nat → Nat × Nat × Nat
  | 0 => (0, 0, 0)
  | n + 1 => if mis w (fol w n) = pm ∧ p ≤ str w n then ((ms3 w pm p n).1 + 1, (if (ms3 w pm p n).1 = 0 then n else (ms3 w pm p n).2.1), (if (ms3 w pm p n).1 = 0 then n else (ms3 w pm p n).2.2 &&& n)) else ms3 w pm p n
theorem ms3_le {w : WT} {pm p : Nat} : ∀ n, (ms3 w pm p n).1 ≤ n ∧ (ms3 w pm p n).2.2 ≤ n
  | 0 => ⟨Nat.le_refl _, Nat.le_refl _⟩
  | n + 1 => by
    have := ms3_le (w := w) (pm := pm) (p := p) n
    have h2 : (ms3 w pm p n).2.2 &&& n ≤ n := Nat.and_le_right
    unfold ms3
    split
    · refine ⟨by show (ms3 w pm p n).1 + 1 ≤ n + 1; omega, ?_⟩
      show (if (ms3 w pm p n).1 = 0 then n else (ms3 w pm p n).2.2 &&& n) ≤ n + 1
      split <;> omega
    · omega
def aMissing (w : WT) (a p k : Int) : Int := if (0 ≤ a ∧ a < ((2 ^ w 0 2 : Nat) : Int)) ∧ (0 ≤ p ∧ p ≤ 90) ∧ (0 ≤ k ∧ k ≤ 2) then
  (if k = 0 then ((ms3 w a.toNat p.toNat (2 ^ w 0 0)).1 : Int) else if (ms3 w a.toNat p.toNat (2 ^ w 0 0)).1 = 0 then -4 else if k = 1 then ((ms3 w a.toNat p.toNat (2 ^ w 0 0)).2.1 : Int) else ((ms3 w a.toNat p.toNat (2 ^ w 0 0)).2.2 : Int)) else -1
theorem pow256 {w : WT} (hW : WOk w) : 2 ^ w 0 2 ≤ 256 := Nat.pow_le_pow_right (n := 2) (j := 8) (by decide) hW.1.2.2.1
section QUERE
variable {G : GG} {M : MM} {d : Nat} {Q : Option AV → MM → Prop} {w s : WT}
theorem ok8_missing {a p k : Int} (hd : 2 ≤ d) (hX : XIv M w s) (hP : PIv w s) (kk : Q (some (vI (aMissing w a p k))) M) : Ok G mX8_missing d 0 0 [vR 1, vI a, vI p, vI k] M Q := by
  obtain ⟨d, rfl⟩ : ∃ e, d = e + 1 := ⟨d - 1, by omega⟩
  refine Ok_of rfl (Nat.le_of_ble_eq_true rfl) rfl ?_
  unfold aMissing at kk
  have hW := hP.1
  have hpw := pow_le hW
  have h8 := hW.1.2.2.1
  have e2 : ishlv 1 (gI M (gR M 1 2) 2) = ((2 ^ w 0 2 : Nat) : Int) := by rw [hX.2.1.1 2 (by decide)]; exact ishl_1 (by omega)
  refine bX8_missing_0 _ _ _ hX.1 ?_
  rw [e2]
  refine ⟨fun h => by rwa [if_neg (by omega)] at kk, fun h1 => ⟨fun h => ?_, fun h2 => ⟨fun h => by rwa [if_neg (by omega)] at kk, fun h3 => ⟨fun h => by rwa [if_neg (by omega)] at kk, fun h4 => ⟨fun h => by rwa [if_neg (by omega)] at kk, fun h5 => ⟨fun h6 => ?_, fun h => by rwa [if_neg (by omega)] at kk⟩⟩⟩⟩⟩⟩
  · have q : ((2 ^ w 0 2 : Nat) : Int) ≤ a := by
      rcases Classical.em (((2 ^ w 0 2 : Nat) : Int) ≤ a) with q | q
      · exact q
      · rw [if_neg q] at h; exact absurd h (by decide)
    rwa [if_neg (by omega)] at kk
  · have q : ¬ ((2 ^ w 0 2 : Nat) : Int) ≤ a := fun q => h2 (if_pos q)
    clear h2
    rw [if_pos (by omega)] at kk
    obtain ⟨a, rfl⟩ := nat_of (show 0 ≤ a by omega)
    obtain ⟨p, rfl⟩ := nat_of (show 0 ≤ p by omega)
    rw [Int.toNat_natCast, Int.toNat_natCast] at kk
    refine down (fun i => Wp G mX8_missing (d + 1) 0 0 63 [some (vR 1), some (vI a), some (vI p), some (vI k), none, some (vI ((ms3 w a p i).1 : Nat)), some (vI (if (ms3 w a p i).1 = 0 then -4 else ((ms3 w a p i).2.1 : Int))), some (vI (if (ms3 w a p i).1 = 0 then -1 else ((ms3 w a p i).2.2 : Int))), some (vI (i : Int))] [] M 0 0 Q) (n := 2 ^ w 0 0) ?_ ?_ 0 (Nat.zero_le _)
    · have hT := hX.2.2.1.1
      refine bX8_missing_63 _ _ _ _ _ _ _ hX.1 ⟨fun _ => ?_, fun h => absurd (by rw [hT]; exact Int.le_refl _) h⟩
      generalize ms3 w a p (2 ^ w 0 0) = y at *
      refine ⟨fun k0 => ?_, fun k0 => by rwa [if_pos k0] at kk⟩
      rw [if_neg k0] at kk
      refine ⟨fun hz => ?_, fun hz => ?_⟩
      · have hz2 : ¬ y.1 = 0 := by omega
        rw [if_neg hz2] at kk
        rw [if_neg hz2, if_neg hz2]
        by_cases k1 : k = 1
        · rw [if_pos k1] at kk ⊢; exact kk
        · rw [if_neg k1] at kk ⊢; exact kk
      · rwa [if_pos (by omega)] at kk
    · intro i hi ih
      have hT := hX.2.2.1.1
      have r32 : R32 ((i : Int) + 1) := ⟨by omega, by omega⟩
      have hle := ms3_le (w := w) (pm := a) (p := p) i
      have em : ms3 w a p (i + 1) = if mis w (fol w i) = a ∧ p ≤ str w i then ((ms3 w a p i).1 + 1, (if (ms3 w a p i).1 = 0 then i else (ms3 w a p i).2.1), (if (ms3 w a p i).1 = 0 then i else (ms3 w a p i).2.2 &&& i)) else ms3 w a p i := rfl
      rw [em] at ih
      generalize ms3 w a p i = y at *
      refine bX8_missing_63 _ _ _ _ _ _ _ hX.1 ⟨fun h => absurd h (by rw [hT]; omega), fun _ => ok_missersOf hX.1 hX.2.2.1 hW hi ⟨_, rfl, hX.1, fun hne => ⟨r32, ?_⟩, fun he => ok_strengthOf hX.1 hX.2.2.1 hW hi ⟨_, rfl, hX.1, fun hle2 => ?_, fun hgt => ⟨r32, ?_⟩⟩⟩⟩
      · rw [if_neg (by omega)] at ih; exact ih
      · rw [if_pos (by omega)] at ih
        refine ⟨fun hz => ⟨⟨by omega, by omega⟩, r32, ?_⟩, fun hz => ⟨⟨by omega, by omega⟩, r32, ?_⟩⟩
        · have hz2 : ¬ y.1 = 0 := by omega
          rw [if_neg hz2, if_neg hz2] at ih
          rw [if_neg hz2, if_neg hz2, iand_n (by omega)]
          exact ih
        · have hz2 : y.1 = 0 := by omega
          rw [if_pos hz2, if_pos hz2] at ih
          rw [if_pos hz2, iand_m1' (by omega)]
          exact ih
      · rw [if_neg (by omega)] at ih; exact ih
theorem ok9_whoMiss {f : Nat} (hd : 1 ≤ d) (hX : MIv M w s) (hW : WOk w) (hf : f < 1024) (kk : Q (some (vI (mis w f : Nat))) M) : Ok G mX9_whoMiss d 0 0 [vR 96, vI f] M Q := by
  obtain ⟨d, rfl⟩ : ∃ e, d = e + 1 := ⟨d - 1, by omega⟩
  refine Ok_of rfl (Nat.le_of_ble_eq_true rfl) rfl ?_
  refine bX9_whoMiss_0 _ hX.1 ?_
  have h8 := hW.1.2.2.1
  have h10 := hW.1.1
  have e2 := hX.2.1.1.2.2.1
  refine down (fun i => Wp G mX9_whoMiss (d + 1) 0 0 4 [some (vR 96), some (vI f), some (vI (mk (fun i => f.testBit (w 5 i)) i : Nat)), some (vI (i : Int))] [] M 0 0 Q) (n := w 0 2) ?_ ?_ 0 (Nat.zero_le _)
  · exact bX9_whoMiss_4 _ _ _ hX.1 ⟨fun _ => kk, fun h => absurd h (by omega)⟩
  · intro i hi ih
    have h5 := (hW.2.2.2.1 i hi).1
    have hml : mk (fun i => f.testBit (w 5 i)) i < 2 ^ 8 := mk_lt (by omega)
    have h2i : 2 ^ i < 2 ^ 8 := Nat.pow_lt_pow_right (by decide) (by omega)
    rw [mk_succ] at ih
    refine bX9_whoMiss_4 _ _ _ hX.1 ⟨fun h => absurd h (by omega), fun _ => ⟨⟨by omega, by omega⟩, ?_⟩⟩
    rw [Int.toNat_natCast, (hX.2.1.2.2.1 i hi).1, ishl_1 (by omega)]
    refine ok_has (by omega) (by omega) ⟨_, rfl, hX.1, ⟨by omega, by omega⟩, ?_⟩
    cases hb : f.testBit (w 5 i)
    · rw [hb] at ih
      rw [if_pos (by rfl), show (0 : Int) = ((0 : Nat) : Int) from rfl, ior_n (by omega) (by decide)]
      exact ih
    · rw [hb] at ih
      rw [if_neg (by decide), ior_n (by omega) (by omega)]
      exact ih
theorem ok9_missing {a p k : Int} (hd : 2 ≤ d) (hX : MIv M w s) (hP : PIv w s) (kk : Q (some (vI (aMissing w a p k))) M) : Ok G mX9_missing d 0 0 [vR 96, vI a, vI p, vI k] M Q := by
  obtain ⟨d, rfl⟩ : ∃ e, d = e + 1 := ⟨d - 1, by omega⟩
  refine Ok_of rfl (Nat.le_of_ble_eq_true rfl) rfl ?_
  unfold aMissing at kk
  have hW := hP.1
  have hpw := pow_le hW
  have h8 := hW.1.2.2.1
  have h10 := hW.1.1
  have hpm := pow256 hW
  have h1p := Nat.two_pow_pos (w 0 2)
  have e2 : ishlv 1 (gI M 96 10) = ((2 ^ w 0 2 : Nat) : Int) := by rw [hX.2.1.1.2.2.1]; exact ishl_1 (by omega)
  have es : ishlv 1 (gI M 96 5) = ((2 ^ w 0 0 : Nat) : Int) := by rw [hX.2.1.1.1]; exact ishl_1 (by omega)
  refine bX9_missing_0 _ _ _ hX.1 ?_
  rw [e2]
  refine ⟨⟨by omega, by omega⟩, ok_in ⟨_, rfl, hX.1, fun h => ?_, fun h1 => ok_in ⟨_, rfl, hX.1, fun h => ?_, fun h2 => ok_in ⟨_, rfl, hX.1, fun h3 => ?_, fun h => ?_⟩⟩⟩⟩
  · have q : ¬ (0 ≤ a ∧ a ≤ ((2 ^ w 0 2 : Nat) : Int) - 1) := fun q => by rw [if_pos q] at h; exact absurd h (by decide)
    rwa [if_neg (by omega)] at kk
  · have q : ¬ (0 ≤ p ∧ p ≤ 90) := fun q => by rw [if_pos q] at h; exact absurd h (by decide)
    rwa [if_neg (by omega)] at kk
  · have q1 : 0 ≤ a ∧ a ≤ ((2 ^ w 0 2 : Nat) : Int) - 1 := by
      rcases Classical.em (0 ≤ a ∧ a ≤ ((2 ^ w 0 2 : Nat) : Int) - 1) with q | q
      · exact q
      · exact absurd (if_neg q) h1
    have q2 : 0 ≤ p ∧ p ≤ 90 := by
      rcases Classical.em (0 ≤ p ∧ p ≤ 90) with q | q
      · exact q
      · exact absurd (if_neg q) h2
    have q3 : 0 ≤ k ∧ k ≤ 2 := by
      rcases Classical.em (0 ≤ k ∧ k ≤ 2) with q | q
      · exact q
      · exact absurd (if_neg q) h3
    clear h1 h2 h3
    rw [if_pos (by omega)] at kk
    obtain ⟨a, rfl⟩ := nat_of q1.1
    obtain ⟨p, rfl⟩ := nat_of q2.1
    rw [Int.toNat_natCast, Int.toNat_natCast] at kk
    refine down (fun i => Wp G mX9_missing (d + 1) 0 0 58 [some (vR 96), some (vI a), some (vI p), some (vI k), some (vI ((ms3 w a p i).1 : Nat)), some (vI (if (ms3 w a p i).1 = 0 then -4 else ((ms3 w a p i).2.1 : Int))), some (vI (if (ms3 w a p i).1 = 0 then -4 else ((ms3 w a p i).2.2 : Int))), some (vI (i : Int))] [] M 0 0 Q) (n := 2 ^ w 0 0) ?_ ?_ 0 (Nat.zero_le _)
    · refine bX9_missing_58 _ _ _ _ _ _ _ hX.1 ⟨fun _ => ?_, fun h => absurd (by rw [es]; exact Int.le_refl _) h⟩
      generalize ms3 w a p (2 ^ w 0 0) = y at *
      refine ⟨fun k0 => ?_, fun k0 => by rwa [if_pos k0] at kk⟩
      rw [if_neg k0] at kk
      by_cases hz : y.1 = 0
      · rw [if_pos hz] at kk
        rw [if_pos hz, if_pos hz]
        by_cases k1 : k = 1
        · rw [if_pos k1]; exact kk
        · rw [if_neg k1]; exact kk
      · rw [if_neg hz] at kk
        rw [if_neg hz, if_neg hz]
        by_cases k1 : k = 1
        · rw [if_pos k1] at kk ⊢; exact kk
        · rw [if_neg k1] at kk ⊢; exact kk
    · intro i hi ih
      have r32 : R32 ((i : Int) + 1) := ⟨by omega, by omega⟩
      have hle := ms3_le (w := w) (pm := a) (p := p) i
      have em : ms3 w a p (i + 1) = if mis w (fol w i) = a ∧ p ≤ str w i then ((ms3 w a p i).1 + 1, (if (ms3 w a p i).1 = 0 then i else (ms3 w a p i).2.1), (if (ms3 w a p i).1 = 0 then i else (ms3 w a p i).2.2 &&& i)) else ms3 w a p i := rfl
      rw [em] at ih
      generalize ms3 w a p i = y at *
      refine bX9_missing_58 _ _ _ _ _ _ _ hX.1 ⟨fun h => absurd h (by rw [es]; omega), fun _ => ok9_strengthOf (by omega) hX.1 hX.2.1 hW (by omega) ⟨_, rfl, hX.1, fun hlt => ⟨r32, ?_⟩, fun hge => ok9_followsOf (by omega) hX.1 hX.2.1 hW hi ⟨_, rfl, hX.1, ok9_whoMiss (by omega) hX hW (set_lt hW (fol_lt hW hi)) ⟨_, rfl, hX.1, fun hne => ⟨r32, ?_⟩, fun he => ⟨⟨by omega, by omega⟩, r32, ?_⟩⟩⟩⟩⟩
      · rw [if_neg (by omega)] at ih; exact ih
      · rw [if_neg (by omega)] at ih; exact ih
      · rw [if_pos (by omega)] at ih
        by_cases hz : y.1 = 0
        · rw [if_pos hz, if_pos hz] at ih
          rw [if_pos (show ((y.1 : Nat) : Int) = 0 by omega), if_pos (show ((y.1 : Nat) : Int) = 0 by omega)]
          exact ih
        · rw [if_neg hz, if_neg hz] at ih
          rw [if_neg (show ¬ ((y.1 : Nat) : Int) = 0 by omega), if_neg (show ¬ ((y.1 : Nat) : Int) = 0 by omega), if_neg hz, if_neg hz, iand_n (by omega)]
          exact ih
  · have q : ¬ (0 ≤ k ∧ k ≤ 2) := fun q => by rw [if_pos q] at h; exact absurd h (by decide)
    rwa [if_neg (by omega)] at kk
end QUERE
