/-! ===== plain questions: the class and the reference give the same ===== -/
def XIv (M : MM) (w s : WT) : Prop := ShX M ∧ CW M (gR M 1 2) w ∧ TB M w ∧ SV M 35 s
def MIv (M : MM) (w s : WT) : Prop := ShM M ∧ MW M w ∧ RV M 0 s
def PIv (w s : WT) : Prop := WOk w ∧ SI w s ∧ s 3 0 ≤ 999
theorem PIv.sb {w s : WT} (h : PIv w s) : SB s := h.2.1.sb h.1 (by have := h.2.2; omega)
theorem nat_of {a : Int} (h : 0 ≤ a) : ∃ n : Nat, a = n := ⟨a.toNat, by omega⟩
def aThing (w s : WT) (t k : Int) : Int := if 0 ≤ t ∧ t < w 0 0 then (if k = 0 then (w 1 t.toNat : Int) else if k = 1 then (w 2 t.toNat : Int) else if k = 2 then (if (thr w (goneS s)).testBit t.toNat then 1 else 0) else if k = 3 then whoS s t.toNat else -1) else -1
def aPerson (w s : WT) (i k : Int) : Int := if 0 ≤ i ∧ i < w 0 2 then (if k = 0 then (w 5 i.toNat : Int) else if k = 1 then (w 6 i.toNat : Int) else if k = 2 then (if (fol w (foundS s (km w 3))).testBit (w 5 i.toNat) then 1 else 0) else -1) else -1
def aBeast (w s : WT) (b k : Int) : Int := if 0 ≤ b ∧ b < w 0 3 then (if k = 0 then (w 7 b.toNat : Int) else if k = 1 then (s 0 b.toNat : Int) else if k = 2 then (if s 0 b.toNat = 0 then -4 else (s 1 b.toNat : Int)) else if k = 3 then (s 2 b.toNat : Int) else -1) else -1
def isS (w : WT) (a : Int) : Prop := 0 ≤ a ∧ a < ((2 ^ w 0 0 : Nat) : Int)
section QUER
variable {G : GG} {M : MM} {d : Nat} {Q : Option AV → MM → Prop} {w s : WT}
theorem ok8_isThing {a : Int} (hX : XIv M w s) (k1 : (0 ≤ a ∧ a < w 0 0) → Q (some (vI 1)) M) (k0 : ¬ (0 ≤ a ∧ a < w 0 0) → Q (some (vI 0)) M) : Ok G mX8_isThing d 0 0 [vR 1, vI a] M Q := by
  refine Ok_of rfl (Nat.le_of_ble_eq_true rfl) rfl ?_
  have e := hX.2.1.1 0 (by decide)
  exact bX8_isThing_0 _ hX.1 ⟨fun h => k0 (by omega), fun h => ⟨fun h2 => k0 (by omega), fun h2 => k1 (by omega)⟩⟩
theorem ok8_isBeast {a : Int} (hX : XIv M w s) (k1 : (0 ≤ a ∧ a < w 0 3) → Q (some (vI 1)) M) (k0 : ¬ (0 ≤ a ∧ a < w 0 3) → Q (some (vI 0)) M) : Ok G mX8_isBeast d 0 0 [vR 1, vI a] M Q := by
  refine Ok_of rfl (Nat.le_of_ble_eq_true rfl) rfl ?_
  have e := hX.2.1.1 3 (by decide)
  exact bX8_isBeast_0 _ hX.1 ⟨fun h => k0 (by omega), fun h => ⟨fun h2 => k0 (by omega), fun h2 => k1 (by omega)⟩⟩
theorem ok8_isSet {a : Int} (hX : XIv M w s) (k1 : isS w a → Q (some (vI 1)) M) (k0 : ¬ isS w a → Q (some (vI 0)) M) : Ok G mX6_isSet d 0 0 [vR 30, vI a] M Q := by
  refine ok_isSet hX.1 hX.2.2.1 ?_
  by_cases h : isS w a
  · have k1 := k1 h
    unfold isS at h
    rw [if_pos h]; exact k1
  · have k0 := k0 h
    unfold isS at h
    rw [if_neg h]; exact k0
theorem ok9_isThing {a : Int} (hd : 1 ≤ d) (hX : MIv M w s) (hW : WOk w) (k1 : (0 ≤ a ∧ a < w 0 0) → Q (some (vI 1)) M) (k0 : ¬ (0 ≤ a ∧ a < w 0 0) → Q (some (vI 0)) M) : Ok G mX9_isThing d 0 0 [vR 96, vI a] M Q := by
  obtain ⟨d, rfl⟩ : ∃ e, d = e + 1 := ⟨d - 1, by omega⟩
  refine Ok_of rfl (Nat.le_of_ble_eq_true rfl) rfl ?_
  have e := hX.2.1.1.1
  have h10 := hW.1.1
  refine bX9_isThing_0 _ hX.1 ⟨⟨by omega, by omega⟩, ok_in ⟨_, rfl, hX.1, ?_⟩⟩
  by_cases h : 0 ≤ a ∧ a < w 0 0
  · rw [if_pos (by omega)]; exact ⟨Or.inr rfl, k1 h⟩
  · rw [if_neg (by omega)]; exact ⟨Or.inl rfl, k0 h⟩
theorem ok9_isBeast {a : Int} (hd : 1 ≤ d) (hX : MIv M w s) (hW : WOk w) (k1 : (0 ≤ a ∧ a < w 0 3) → Q (some (vI 1)) M) (k0 : ¬ (0 ≤ a ∧ a < w 0 3) → Q (some (vI 0)) M) : Ok G mX9_isBeast d 0 0 [vR 96, vI a] M Q := by
  obtain ⟨d, rfl⟩ : ∃ e, d = e + 1 := ⟨d - 1, by omega⟩
  refine Ok_of rfl (Nat.le_of_ble_eq_true rfl) rfl ?_
  have e := hX.2.1.1.2.2.2.1
  have h10 := hW.1.2.2.2.1
  refine bX9_isBeast_0 _ hX.1 ⟨⟨by omega, by omega⟩, ok_in ⟨_, rfl, hX.1, ?_⟩⟩
  by_cases h : 0 ≤ a ∧ a < w 0 3
  · rw [if_pos (by omega)]; exact ⟨Or.inr rfl, k1 h⟩
  · rw [if_neg (by omega)]; exact ⟨Or.inl rfl, k0 h⟩
theorem ok9_isSet {a : Int} (hd : 1 ≤ d) (hX : MIv M w s) (hW : WOk w) (k1 : isS w a → Q (some (vI 1)) M) (k0 : ¬ isS w a → Q (some (vI 0)) M) : Ok G mX9_isSet d 0 0 [vR 96, vI a] M Q := by
  obtain ⟨d, rfl⟩ : ∃ e, d = e + 1 := ⟨d - 1, by omega⟩
  refine Ok_of rfl (Nat.le_of_ble_eq_true rfl) rfl ?_
  have h10 := hW.1.1
  have hpw := pow_le hW
  have h1p := Nat.two_pow_pos (w 0 0)
  have e : ishlv 1 (gI M 96 5) = ((2 ^ w 0 0 : Nat) : Int) := by rw [hX.2.1.1.1]; exact ishl_1 (by omega)
  refine bX9_isSet_0 _ hX.1 ?_
  rw [e]
  refine ⟨⟨by omega, by omega⟩, ok_in ⟨_, rfl, hX.1, ?_⟩⟩
  unfold isS at k1 k0
  by_cases h : 0 ≤ a ∧ a < ((2 ^ w 0 0 : Nat) : Int)
  · rw [if_pos (by omega)]; exact ⟨Or.inr rfl, k1 h⟩
  · rw [if_neg (by omega)]; exact ⟨Or.inl rfl, k0 h⟩
theorem ok8_strength {a : Int} (hd : 1 ≤ d) (hX : XIv M w s) (hP : PIv w s) (k1 : isS w a → Q (some (vI (str w a.toNat : Nat))) M) (k0 : ¬ isS w a → Q (some (vI (-1))) M) : Ok G mX8_strength d 0 0 [vR 1, vI a] M Q := by
  obtain ⟨d, rfl⟩ : ∃ e, d = e + 1 := ⟨d - 1, by omega⟩
  refine Ok_of rfl (Nat.le_of_ble_eq_true rfl) rfl ?_
  refine bX8_strength_0 _ hX.1 (ok8_isSet hX (fun h => ⟨_, rfl, hX.1, fun z => absurd z (by decide), fun _ => ?_⟩) (fun h => ⟨_, rfl, hX.1, fun _ => k0 h, fun z => absurd rfl z⟩))
  obtain ⟨n, rfl⟩ := nat_of h.1
  exact ok_strengthOf hX.1 hX.2.2.1 hP.1 (by unfold isS at h; omega) ⟨_, rfl, hX.1, k1 h⟩
theorem ok9_strength {a : Int} (hd : 2 ≤ d) (hX : MIv M w s) (hP : PIv w s) (k1 : isS w a → Q (some (vI (str w a.toNat : Nat))) M) (k0 : ¬ isS w a → Q (some (vI (-1))) M) : Ok G mX9_strength d 0 0 [vR 96, vI a] M Q := by
  obtain ⟨d, rfl⟩ : ∃ e, d = e + 1 := ⟨d - 1, by omega⟩
  refine Ok_of rfl (Nat.le_of_ble_eq_true rfl) rfl ?_
  refine bX9_strength_0 _ hX.1 (ok9_isSet (by omega) hX hP.1 (fun h => ⟨_, rfl, hX.1, fun z => absurd z (by decide), fun _ => ?_⟩) (fun h => ⟨_, rfl, hX.1, fun _ => k0 h, fun z => absurd rfl z⟩))
  obtain ⟨n, rfl⟩ := nat_of h.1
  exact ok9_strengthOf (by omega) hX.1 hX.2.1 hP.1 (set_lt hP.1 (by unfold isS at h; omega)) ⟨_, rfl, hX.1, k1 h⟩
theorem ok8_follows {a : Int} (hd : 1 ≤ d) (hX : XIv M w s) (hP : PIv w s) (k1 : isS w a → Q (some (vI (fol w a.toNat : Nat))) M) (k0 : ¬ isS w a → Q (some (vI (-1))) M) : Ok G mX8_follows d 0 0 [vR 1, vI a] M Q := by
  obtain ⟨d, rfl⟩ : ∃ e, d = e + 1 := ⟨d - 1, by omega⟩
  refine Ok_of rfl (Nat.le_of_ble_eq_true rfl) rfl ?_
  refine bX8_follows_0 _ hX.1 (ok8_isSet hX (fun h => ⟨_, rfl, hX.1, fun z => absurd z (by decide), fun _ => ?_⟩) (fun h => ⟨_, rfl, hX.1, fun _ => k0 h, fun z => absurd rfl z⟩))
  obtain ⟨n, rfl⟩ := nat_of h.1
  exact ok_followersOf hX.1 hX.2.2.1 hP.1 (by unfold isS at h; omega) ⟨_, rfl, hX.1, k1 h⟩
theorem ok9_follows {a : Int} (hd : 2 ≤ d) (hX : MIv M w s) (hP : PIv w s) (k1 : isS w a → Q (some (vI (fol w a.toNat : Nat))) M) (k0 : ¬ isS w a → Q (some (vI (-1))) M) : Ok G mX9_follows d 0 0 [vR 96, vI a] M Q := by
  obtain ⟨d, rfl⟩ : ∃ e, d = e + 1 := ⟨d - 1, by omega⟩
  refine Ok_of rfl (Nat.le_of_ble_eq_true rfl) rfl ?_
  refine bX9_follows_0 _ hX.1 (ok9_isSet (by omega) hX hP.1 (fun h => ⟨_, rfl, hX.1, fun z => absurd z (by decide), fun _ => ?_⟩) (fun h => ⟨_, rfl, hX.1, fun _ => k0 h, fun z => absurd rfl z⟩))
  obtain ⟨n, rfl⟩ := nat_of h.1
  exact ok9_followsOf (by omega) hX.1 hX.2.1 hP.1 (by unfold isS at h; omega) ⟨_, rfl, hX.1, k1 h⟩
theorem ok8_cost {a : Int} (hd : 2 ≤ d) (hX : XIv M w s) (hP : PIv w s) (k1 : isS w a → Q (some (vI (cst w (goneS s) a.toNat))) M) (k0 : ¬ isS w a → Q (some (vI (-1))) M) : Ok G mX8_cost d 0 0 [vR 1, vI a] M Q := by
  obtain ⟨d, rfl⟩ : ∃ e, d = e + 1 := ⟨d - 1, by omega⟩
  refine Ok_of rfl (Nat.le_of_ble_eq_true rfl) rfl ?_
  refine bX8_cost_0 _ hX.1 (ok8_isSet hX (fun h => ⟨_, rfl, hX.1, fun z => absurd z (by decide), fun _ => ?_⟩) (fun h => ⟨_, rfl, hX.1, fun _ => k0 h, fun z => absurd rfl z⟩))
  obtain ⟨n, rfl⟩ := nat_of h.1
  exact ok_gone rfl hX.1 hX.2.2.2 hP.sb ⟨_, rfl, hX.1, ok_costOf (by omega) hX.1 hX.2.2.1 hP.1 (by unfold isS at h; omega) (goneS_lt' hP.2.1) ⟨_, rfl, hX.1, k1 h⟩⟩
theorem ok9_cost {a : Int} (hd : 3 ≤ d) (hX : MIv M w s) (hP : PIv w s) (k1 : isS w a → Q (some (vI (cst w (goneS s) a.toNat))) M) (k0 : ¬ isS w a → Q (some (vI (-1))) M) : Ok G mX9_cost d 0 0 [vR 96, vI a] M Q := by
  obtain ⟨d, rfl⟩ : ∃ e, d = e + 1 := ⟨d - 1, by omega⟩
  refine Ok_of rfl (Nat.le_of_ble_eq_true rfl) rfl ?_
  refine bX9_cost_0 _ hX.1 (ok9_isSet (by omega) hX hP.1 (fun h => ⟨_, rfl, hX.1, fun z => absurd z (by decide), fun _ => ?_⟩) (fun h => ⟨_, rfl, hX.1, fun _ => k0 h, fun z => absurd rfl z⟩))
  obtain ⟨n, rfl⟩ := nat_of h.1
  exact ok9_costIn (base := 0) (by omega) hX.1 hX.2.1 hP.1 hP.2.1 hX.2.2 (by decide) (by unfold isS at h; omega) ⟨_, rfl, hX.1, k1 h⟩
theorem ok8_missedIn {p : Nat} {s2 : WT} (hd : 1 ≤ d) (hk : kd p = 5) (hS : ShX M) (hw : CW M (gR M 1 2) w) (hT : TB M w) (hV : SV M p s2) (hW : WOk w) (hI : SI w s2) (hdy : s2 3 0 ≤ 2000) (kk : Q (some (vI (los w (foundS s2 (km w 3)) : Nat))) M) : Ok G mX8_missedIn d 0 0 [vR 1, vR p] M Q := by
  obtain ⟨d, rfl⟩ : ∃ e, d = e + 1 := ⟨d - 1, by omega⟩
  refine Ok_of rfl (Nat.le_of_ble_eq_true rfl) rfl ?_
  refine bX8_missedIn_0 _ hk hS ?_
  rw [hw.2.1.2.2]
  exact ok_found hk hS hV (hI.sb hW hdy) ⟨_, rfl, hS, ok_lossOf hS hT hW (foundS_lt' hI) ⟨_, rfl, hS, kk⟩⟩
theorem ok8_missed (hd : 2 ≤ d) (hX : XIv M w s) (hP : PIv w s) (kk : Q (some (vI (los w (foundS s (km w 3)) : Nat))) M) : Ok G mX8_missed d 0 0 [vR 1] M Q := by
  obtain ⟨d, rfl⟩ : ∃ e, d = e + 1 := ⟨d - 1, by omega⟩
  refine Ok_of rfl (Nat.le_of_ble_eq_true rfl) rfl ?_
  exact bX8_missed_0 hX.1 (ok8_missedIn (by omega) rfl hX.1 hX.2.1 hX.2.2.1 hX.2.2.2 hP.1 hP.2.1 (by have := hP.2.2; omega) ⟨_, rfl, hX.1, kk⟩)
theorem ok9_missed (hd : 3 ≤ d) (hX : MIv M w s) (hP : PIv w s) (kk : Q (some (vI (los w (foundS s (km w 3)) : Nat))) M) : Ok G mX9_missed d 0 0 [vR 96] M Q := by
  obtain ⟨d, rfl⟩ : ∃ e, d = e + 1 := ⟨d - 1, by omega⟩
  refine Ok_of rfl (Nat.le_of_ble_eq_true rfl) rfl ?_
  exact bX9_missed_0 hX.1 (ok9_missedIn (base := 0) (by omega) hX.1 hX.2.1 hP.1 hP.2.1 hX.2.2 (by decide) ⟨_, rfl, hX.1, kk⟩)
end QUER
