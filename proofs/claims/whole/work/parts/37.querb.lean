/-! ===== thing, person, beast, least, all, more ===== -/
def whoM (s : WT) (t : Nat) : Nat → Int
  | 0 => -4
  | n + 1 => if (s 0 n).testBit t then (n : Int) else whoM s t n
theorem who_eq {w s : WT} (hI : SI w s) (hW : WOk w) (t : Nat) : whoM s t (w 0 3) = whoS s t := by
  have h4 := hW.1.2.2.2.1
  have hz : ∀ b, b < 4 → w 0 3 ≤ b → (s 0 b).testBit t = false := fun b hb hw => by rw [(hI.1 b hb).2.1 hw, Nat.zero_testBit]
  have hd : ∀ a b, a < 4 → b < 4 → a ≠ b → (s 0 a).testBit t = true → (s 0 b).testBit t = false := fun a b ha hb hab h => by
    have e := congrArg (fun z : Nat => z.testBit t) (hI.2 a b ha hb hab)
    simp only [Nat.testBit_and, Nat.zero_testBit, h, Bool.true_and] at e
    exact e
  have d01 := hd 0 1 (by decide) (by decide) (by decide)
  have d02 := hd 0 2 (by decide) (by decide) (by decide)
  have d03 := hd 0 3 (by decide) (by decide) (by decide)
  have d12 := hd 1 2 (by decide) (by decide) (by decide)
  have d13 := hd 1 3 (by decide) (by decide) (by decide)
  have d23 := hd 2 3 (by decide) (by decide) (by decide)
  have z0 := hz 0 (by decide)
  have z1 := hz 1 (by decide)
  have z2 := hz 2 (by decide)
  have z3 := hz 3 (by decide)
  clear hz hd hI
  unfold whoS
  generalize w 0 3 = n at *
  have : n = 0 ∨ n = 1 ∨ n = 2 ∨ n = 3 ∨ n = 4 := by omega
  unfold WOk at hW
  clear hW
  generalize e0 : (s 0 0).testBit t = x0 at *
  generalize e1 : (s 0 1).testBit t = x1 at *
  generalize e2 : (s 0 2).testBit t = x2 at *
  generalize e3 : (s 0 3).testBit t = x3 at *
  rcases this with rfl | rfl | rfl | rfl | rfl <;> simp only [whoM, e0, e1, e2, e3] <;> cases x0 <;> cases x1 <;> cases x2 <;> cases x3 <;> simp_all
section QUERB
variable {G : GG} {M : MM} {d : Nat} {Q : Option AV → MM → Prop} {w s : WT}
theorem ok8_isThere {t : Nat} (hd : 2 ≤ d) (hX : XIv M w s) (hP : PIv w s) (ht : t < w 0 0) (kk : Q (some (vI (if (thr w (goneS s)).testBit t then 1 else 0))) M) : Ok G mX8_isThere d 0 0 [vR 1, vI t] M Q := by
  obtain ⟨d, rfl⟩ : ∃ e, d = e + 1 := ⟨d - 1, by omega⟩
  refine Ok_of rfl (Nat.le_of_ble_eq_true rfl) rfl ?_
  have h10 := hP.1.1.1
  have hth := set_lt hP.1 (thr_lt (w := w) (g := goneS s))
  refine bX8_isThere_0 _ hX.1 (ok_gone rfl hX.1 hX.2.2.2 hP.sb ⟨_, rfl, hX.1, ok_thereBesides (by omega) hX.1 hX.2.2.1 hP.1 (goneS_lt' hP.2.1) ⟨_, rfl, hX.1, ?_⟩⟩)
  have e := bit_1 (a := thr w (goneS s)) (k := t) (by omega) (by omega)
  refine ⟨fun h => ?_, fun h => ?_⟩
  · rwa [if_neg (fun z => h (e.mpr z))] at kk
  · rwa [if_pos (e.mp h)] at kk
theorem ok8_thing {t k : Int} (hd : 3 ≤ d) (hX : XIv M w s) (hP : PIv w s) (kk : Q (some (vI (aThing w s t k))) M) : Ok G mX8_thing d 0 0 [vR 1, vI t, vI k] M Q := by
  obtain ⟨d, rfl⟩ : ∃ e, d = e + 1 := ⟨d - 1, by omega⟩
  refine Ok_of rfl (Nat.le_of_ble_eq_true rfl) rfl ?_
  unfold aThing at kk
  refine bX8_thing_0 _ _ hX.1 (ok8_isThing hX (fun h => ⟨_, rfl, hX.1, fun _ => ?_, fun z => absurd z (by decide)⟩) (fun h => ⟨_, rfl, hX.1, fun z => absurd rfl z, fun _ => by rwa [if_neg h] at kk⟩))
  rw [if_pos h] at kk
  obtain ⟨n, rfl⟩ := nat_of h.1
  rw [Int.toNat_natCast] at kk
  have h10 := hP.1.1.1
  have hn : n < w 0 0 := by omega
  have hk7 := xlaid hX.1
  refine ⟨fun e => ?_, fun e => ?_, fun e => ?_, fun e => ?_, fun e => ?_⟩
  · rw [e] at kk
    exact ok_strengthOfThing (by omega) hk7 hX.1 hX.2.1 hP.1 hn ⟨_, rfl, hX.1, kk⟩
  · rw [e] at kk
    exact ok_kindOfThing (by omega) hk7 hX.1 hX.2.1 hP.1 hn ⟨_, rfl, hX.1, kk⟩
  · rw [e] at kk
    refine ok8_isThere (by omega) hX hP hn ⟨_, rfl, hX.1, fun z => ?_, fun z => ?_⟩
    · cases hb : (thr w (goneS s)).testBit n
      · rw [hb] at kk; exact kk
      · rw [hb] at z; exact absurd z (by decide)
    · cases hb : (thr w (goneS s)).testBit n
      · rw [hb] at z; exact absurd rfl z
      · rw [hb] at kk; exact kk
  · rw [e] at kk
    exact ok_beastWith rfl hX.1 hX.2.2.2 hP.sb (by omega) ⟨_, rfl, hX.1, kk⟩
  · rwa [if_neg (by omega), if_neg (by omega), if_neg (by omega), if_neg (by omega)] at kk
theorem ok9_thing {t k : Int} (hd : 3 ≤ d) (hX : MIv M w s) (hP : PIv w s) (kk : Q (some (vI (aThing w s t k))) M) : Ok G mX9_thing d 0 0 [vR 96, vI t, vI k] M Q := by
  obtain ⟨d, rfl⟩ : ∃ e, d = e + 1 := ⟨d - 1, by omega⟩
  refine Ok_of rfl (Nat.le_of_ble_eq_true rfl) rfl ?_
  unfold aThing at kk
  refine bX9_thing_0 _ _ hX.1 (ok9_isThing (by omega) hX hP.1 (fun h => ⟨_, rfl, hX.1, fun _ => ?_, fun z => absurd z (by decide)⟩) (fun h => ⟨_, rfl, hX.1, fun z => absurd rfl z, fun _ => by rwa [if_neg h] at kk⟩))
  rw [if_pos h] at kk
  obtain ⟨n, rfl⟩ := nat_of h.1
  rw [Int.toNat_natCast] at kk
  have h10 := hP.1.1.1
  have h4 := hP.1.1.2.2.2.1
  have hn : n < w 0 0 := by omega
  have e3 := hX.2.1.1.2.2.2.1
  have hth := set_lt hP.1 (thr_lt (w := w) (g := goneS s))
  refine down (fun i => Wp G mX9_thing (d + 1) 0 0 16 [some (vR 96), some (vI n), some (vI k), some (vI (whoM s n i)), some (vI (i : Int))] [] M 0 0 Q) (n := w 0 3) ?_ ?_ 0 (Nat.zero_le _)
  · refine bX9_thing_16 _ _ _ _ hX.1 ⟨fun _ => ⟨fun e0 => ⟨fun e1 => ⟨fun e2 => ?_, fun e2 => ?_⟩, fun e1 => ?_⟩, fun e0 => ?_⟩, fun h => absurd h (by omega)⟩
    · rw [if_neg e0, if_neg e1, if_neg e2] at kk
      rw [who_eq hP.2.1 hP.1]
      exact kk
    · rw [e2] at kk
      refine ok9_thereIn (base := 0) (by omega) hX.1 hX.2.1 hP.1 hP.2.1 hX.2.2 (by decide) ⟨_, rfl, hX.1, ?_⟩
      rw [bit_n (by omega) (by omega)]
      exact kk
    · rw [e1] at kk
      rw [Int.toNat_natCast, (hX.2.1.2.1 n hn).2.1]
      exact ⟨⟨by omega, by omega⟩, kk⟩
    · rw [e0] at kk
      rw [Int.toNat_natCast, (hX.2.1.2.1 n hn).1]
      exact ⟨⟨by omega, by omega⟩, kk⟩
  · intro i hi ih
    have er : (0 + (i : Int)).toNat = 0 + i := by omega
    refine bX9_thing_16 _ _ _ _ hX.1 ⟨fun h => absurd h (by omega), fun _ => ⟨⟨by omega, by omega⟩, ⟨by omega, by omega⟩, ?_⟩⟩
    have hsl := set_lt hP.1 (hP.2.1.1 i (by omega)).1
    rw [er, (hX.2.2.1 i (by omega)).1]
    refine ok_has (by omega) (by omega) ⟨_, rfl, hX.1, ⟨by omega, by omega⟩, ?_⟩
    have ew : whoM s n (i + 1) = if (s 0 i).testBit n then (i : Int) else whoM s n i := rfl
    rw [ew] at ih
    cases hb : (s 0 i).testBit n
    · rw [hb] at ih; exact ih
    · rw [hb] at ih; exact ih
theorem ok8_person {i k : Int} (hd : 3 ≤ d) (hX : XIv M w s) (hP : PIv w s) (kk : Q (some (vI (aPerson w s i k))) M) : Ok G mX8_person d 0 0 [vR 1, vI i, vI k] M Q := by
  obtain ⟨d, rfl⟩ : ∃ e, d = e + 1 := ⟨d - 1, by omega⟩
  refine Ok_of rfl (Nat.le_of_ble_eq_true rfl) rfl ?_
  unfold aPerson at kk
  have hk7 := xlaid hX.1
  have e2 := hX.2.1.1 2 (by decide)
  have h8 := hP.1.1.2.2.1
  refine bX8_person_0 _ _ hX.1 ⟨fun h => ?_, fun h => ⟨fun h2 => ?_, fun h2 => ?_⟩⟩
  · rwa [if_neg (by omega)] at kk
  · rw [if_pos (by omega)] at kk
    obtain ⟨n, rfl⟩ := nat_of (show 0 ≤ i by omega)
    rw [Int.toNat_natCast] at kk
    have hn : n < w 0 2 := by omega
    refine ⟨fun e => ?_, fun e => ?_, fun e => ?_, fun e => ?_⟩
    · rw [e] at kk
      exact ok_thingOfPerson (by omega) hk7 hX.1 hX.2.1 hP.1 hn ⟨_, rfl, hX.1, kk⟩
    · rw [e] at kk
      exact ok_weightOfPerson (by omega) hk7 hX.1 hX.2.1 hP.1 hn ⟨_, rfl, hX.1, kk⟩
    · rw [e] at kk
      rw [hX.2.1.2.1.2.2]
      refine ok_found rfl hX.1 hX.2.2.2 hP.sb ⟨_, rfl, hX.1, ok_missersOf hX.1 hX.2.2.1 hP.1 (foundS_lt' hP.2.1) ⟨_, rfl, hX.1, ?_⟩⟩
      have hm := mis_lt hP.1 (fol w (foundS s (km w 3)))
      rw [bit_n (by omega) (by omega)]
      unfold mis
      rw [mk_bit, decide_eq_true hn, Bool.true_and]
      exact kk
    · rwa [if_neg (by omega), if_neg (by omega), if_neg (by omega)] at kk
  · rwa [if_neg (by omega)] at kk
theorem ok9_person {i k : Int} (hd : 3 ≤ d) (hX : MIv M w s) (hP : PIv w s) (kk : Q (some (vI (aPerson w s i k))) M) : Ok G mX9_person d 0 0 [vR 96, vI i, vI k] M Q := by
  obtain ⟨d, rfl⟩ : ∃ e, d = e + 1 := ⟨d - 1, by omega⟩
  refine Ok_of rfl (Nat.le_of_ble_eq_true rfl) rfl ?_
  unfold aPerson at kk
  have e2 := hX.2.1.1.2.2.1
  have h8 := hP.1.1.2.2.1
  have h10 := hP.1.1.1
  refine bX9_person_0 _ _ hX.1 ⟨⟨by omega, by omega⟩, ok_in ⟨_, rfl, hX.1, ?_⟩⟩
  by_cases hc : 0 ≤ i ∧ i < w 0 2
  · rw [if_pos hc] at kk
    rw [if_pos (by omega)]
    obtain ⟨n, rfl⟩ := nat_of hc.1
    rw [Int.toNat_natCast] at kk
    have hn : n < w 0 2 := by omega
    have hf := hX.2.1.2.2.1 n hn
    have h5 := hP.1.2.2.2.1 n hn
    refine ⟨fun _ => ⟨fun k0 => ⟨fun k1 => ⟨fun k2 => ?_, fun k2 => ?_⟩, fun k1 => ?_⟩, fun k0 => ?_⟩, fun h => absurd h (by decide)⟩
    · rwa [if_neg k0, if_neg k1, if_neg k2] at kk
    · rw [k2] at kk
      have hfl := foundS_lt' (late := km w 3) hP.2.1
      have hfo := set_lt hP.1 (fol_lt hP.1 hfl)
      refine ok9_foundIn (base := 0) (by omega) hX.1 hX.2.1 hP.1 hP.2.1 hX.2.2 (by decide) ⟨_, rfl, hX.1, ok9_followsOf (by omega) hX.1 hX.2.1 hP.1 hfl ⟨_, rfl, hX.1, ⟨by omega, by omega⟩, ?_⟩⟩
      rw [Int.toNat_natCast, hf.1, bit_n (by omega) (by omega)]
      exact kk
    · rw [k1] at kk
      rw [Int.toNat_natCast, hf.2]
      exact ⟨⟨by omega, by omega⟩, kk⟩
    · rw [k0] at kk
      rw [Int.toNat_natCast, hf.1]
      exact ⟨⟨by omega, by omega⟩, kk⟩
  · rw [if_neg hc] at kk
    rw [if_neg (by omega)]
    exact ⟨fun h => absurd rfl h, fun _ => kk⟩
theorem ok8_beast {b k : Int} (hd : 3 ≤ d) (hX : XIv M w s) (hP : PIv w s) (kk : Q (some (vI (aBeast w s b k))) M) : Ok G mX8_beast d 0 0 [vR 1, vI b, vI k] M Q := by
  obtain ⟨d, rfl⟩ : ∃ e, d = e + 1 := ⟨d - 1, by omega⟩
  refine Ok_of rfl (Nat.le_of_ble_eq_true rfl) rfl ?_
  unfold aBeast at kk
  have h4 := hP.1.1.2.2.2.1
  have hk7 := xlaid hX.1
  refine bX8_beast_0 _ _ hX.1 (ok8_isBeast hX (fun h => ⟨_, rfl, hX.1, fun _ => ?_, fun z => absurd z (by decide)⟩) (fun h => ⟨_, rfl, hX.1, fun z => absurd rfl z, fun _ => by rwa [if_neg h] at kk⟩))
  rw [if_pos h] at kk
  obtain ⟨n, rfl⟩ := nat_of h.1
  rw [Int.toNat_natCast] at kk
  have hn : n < w 0 3 := by omega
  have hv := hX.2.2.2.1 n (by omega)
  have hpos : (0 : Int) ≤ n ∧ (n : Int) < 4 := ⟨by omega, by omega⟩
  refine ⟨fun e => ?_, fun e => ?_, fun e => ?_, fun e => ?_, fun e => ?_⟩
  · rw [e] at kk
    exact ok_pullOfBeast (by omega) hk7 hX.1 hX.2.1 hP.1 hn ⟨_, rfl, hX.1, kk⟩
  · rw [e] at kk
    refine ok_ribbonOf rfl hX.1 ?_
    rw [if_pos hpos, Int.toNat_natCast, hv.1]
    exact ⟨_, rfl, hX.1, kk⟩
  · rw [e] at kk
    have kk : Q (some (vI (if s 0 n = 0 then -4 else (s 1 n : Int)))) M := kk
    refine ok_isBound (by omega) rfl hX.1 ?_
    rw [if_pos hpos, Int.toNat_natCast, hv.1]
    refine ⟨_, rfl, hX.1, fun z => ?_, fun z => ok_ageOf rfl hX.1 ?_⟩
    · by_cases h0 : s 0 n = 0
      · rwa [if_pos h0] at kk
      · rw [if_neg (by omega)] at z; exact absurd z (by decide)
    · rw [if_pos hpos, Int.toNat_natCast, hv.2.1]
      refine ⟨_, rfl, hX.1, ?_⟩
      by_cases h0 : s 0 n = 0
      · rw [if_pos (by omega)] at z; exact absurd rfl z
      · rwa [if_neg h0] at kk
  · rw [e] at kk
    refine ok_escapesOf rfl hX.1 ?_
    rw [if_pos hpos, Int.toNat_natCast, hv.2.2]
    exact ⟨_, rfl, hX.1, kk⟩
  · rwa [if_neg (by omega), if_neg (by omega), if_neg (by omega), if_neg (by omega)] at kk
theorem ok9_beast {b k : Int} (hd : 3 ≤ d) (hX : MIv M w s) (hP : PIv w s) (kk : Q (some (vI (aBeast w s b k))) M) : Ok G mX9_beast d 0 0 [vR 96, vI b, vI k] M Q := by
  obtain ⟨d, rfl⟩ : ∃ e, d = e + 1 := ⟨d - 1, by omega⟩
  refine Ok_of rfl (Nat.le_of_ble_eq_true rfl) rfl ?_
  unfold aBeast at kk
  have h4 := hP.1.1.2.2.2.1
  refine bX9_beast_0 _ _ hX.1 (ok9_isBeast (by omega) hX hP.1 (fun h => ⟨_, rfl, hX.1, fun _ => ?_, fun z => absurd z (by decide)⟩) (fun h => ⟨_, rfl, hX.1, fun z => absurd rfl z, fun _ => by rwa [if_neg h] at kk⟩))
  rw [if_pos h] at kk
  obtain ⟨n, rfl⟩ := nat_of h.1
  rw [Int.toNat_natCast] at kk
  have hn : n < w 0 3 := by omega
  have hv := hX.2.2.1 n (by omega)
  have er : (0 + (n : Int)).toNat = 0 + n := by omega
  have er4 : (4 + (n : Int)).toNat = 0 + 4 + n := by omega
  have er8 : (8 + (n : Int)).toNat = 0 + 8 + n := by omega
  rw [er, er4, er8, hv.1, hv.2.1, hv.2.2, Int.toNat_natCast, hX.2.1.2.2.2.1 n hn]
  refine ⟨fun e => ⟨⟨by omega, by omega⟩, ?_⟩, fun e => ⟨⟨by omega, by omega⟩, ⟨by omega, by omega⟩, ?_⟩, fun e => ⟨⟨by omega, by omega⟩, ⟨by omega, by omega⟩, fun z => ⟨⟨by omega, by omega⟩, ⟨by omega, by omega⟩, ?_⟩, fun z => ?_⟩, fun e => ⟨⟨by omega, by omega⟩, ⟨by omega, by omega⟩, ?_⟩, fun e => ?_⟩
  · rw [e] at kk; exact kk
  · rw [e] at kk; exact kk
  · rw [e] at kk
    have kk : Q (some (vI (if s 0 n = 0 then -4 else (s 1 n : Int)))) M := kk
    rwa [if_neg (by omega)] at kk
  · rw [e] at kk
    have kk : Q (some (vI (if s 0 n = 0 then -4 else (s 1 n : Int)))) M := kk
    rwa [if_pos (by omega)] at kk
  · rw [e] at kk; exact kk
  · rwa [if_neg (by omega), if_neg (by omega), if_neg (by omega), if_neg (by omega)] at kk
end QUERB
