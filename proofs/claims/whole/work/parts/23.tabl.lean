/-! ===== a World object, the tables ===== -/
/-- the World object at p holds the world w -/
def cix (j : Nat) : Nat := [0, 0, 0, 1, 1, 2, 2, 3, 4, 4, 4, 4].getD j 0
def CW (M : MM) (p : Nat) (w : WT) : Prop := (∀ j, j < 5 → gI M p j = w 0 j) ∧ (gI M p 5 = km w 1 ∧ gI M p 6 = km w 2 ∧ gI M p 7 = km w 3) ∧ ∀ j, 1 ≤ j → j ≤ 11 → ∀ i, i < w 0 (cix j) → gI M (p + j) i = w j i
/-- the places of a World -/
def Pwo (p : Nat) : Nat → Prop := fun q => p ≤ q ∧ q < p + 12
theorem CW.of {M M' : MM} {p : Nat} {w : WT} (h : CW M p w) (e : ∀ q, Pwo p q → ∀ j, gI M' q j = gI M q j) : CW M' p w := by
  have e0 : ∀ j, gI M' p j = gI M p j := e p ⟨Nat.le_refl _, by omega⟩
  refine ⟨fun j hj => (e0 j).trans (h.1 j hj), ⟨(e0 5).trans h.2.1.1, (e0 6).trans h.2.1.2.1, (e0 7).trans h.2.1.2.2⟩, fun j h1 h2 i hi => (e (p + j) ⟨by omega, by omega⟩ i).trans (h.2.2 j h1 h2 i hi)⟩
/-- the tables hold what the world says -/
def TB (M : MM) (w : WT) : Prop := gI M 30 0 = ((2 ^ w 0 0 : Nat) : Int) ∧ ∀ s, s < 2 ^ w 0 0 → gI M 31 s = (str w s : Nat) ∧ gI M 32 s = (fol w s : Nat) ∧ gI M 33 s = (mis w (fol w s) : Nat) ∧ gI M 34 s = (los w s : Nat)
def Ptb : Nat → Prop := fun q => 30 ≤ q ∧ q < 35
theorem TB.of {M M' : MM} {w : WT} (h : TB M w) (e : ∀ q, Ptb q → ∀ j, gI M' q j = gI M q j) : TB M' w := by
  refine ⟨(e 30 (by unfold Ptb; omega) 0).trans h.1, fun s hs => ?_⟩
  rw [e 31 (by unfold Ptb; omega), e 32 (by unfold Ptb; omega), e 33 (by unfold Ptb; omega), e 34 (by unfold Ptb; omega)]
  exact h.2 s hs
section TABL
variable {G : GG} {M : MM} {d : Nat} {Q : Option AV → MM → Prop}
theorem ok_entry {p : Nat} {i : Nat} (hk : kd p = 10) (hS : ShX M) (hi : i < ln p) (kk : Q (some (vI (gI M p i))) M) : Ok G mX7_entry d 0 0 [vR p, vI i] M Q := by
  refine Ok_of rfl (Nat.le_of_ble_eq_true rfl) rfl ?_
  refine bX7_entry_0 _ hk _ hS ⟨fun h => by omega, fun h => ⟨fun h2 => by omega, fun h2 => ⟨by omega, ?_⟩⟩⟩
  rw [Int.toNat_natCast]
  exact kk
theorem ok_strengthOfThing {p i : Nat} {w : WT} (hd : 1 ≤ d) (hk : kd p = 7) (hS : ShX M) (hw : CW M p w) (hW : WOk w) (hi : i < w 0 (cix 1)) (kk : Q (some (vI (w 1 i))) M) : Ok G mX7_strengthOfThing d 0 0 [vR p, vI i] M Q := by
  obtain ⟨d, rfl⟩ : ∃ e, d = e + 1 := ⟨d - 1, by omega⟩
  refine Ok_of rfl (Nat.le_of_ble_eq_true rfl) rfl ?_
  have hl := l7' hk 8 (r := p + 1) (n := 10) (Nat.le_of_ble_eq_true rfl) (Nat.le_of_ble_eq_true rfl) rfl rfl
  have hb := hW.1
  refine bX7_strengthOfThing_0 _ hk _ hS (ok_entry (k7' hk 8 (Nat.le_of_ble_eq_true rfl) (Nat.le_of_ble_eq_true rfl) rfl) hS (by rw [hl]; simp [cix] at hi; omega) ⟨_, rfl, hS, ?_⟩)
  rw [hw.2.2 1 (by decide) (by decide) i hi]
  exact kk
theorem ok_kindOfThing {p i : Nat} {w : WT} (hd : 1 ≤ d) (hk : kd p = 7) (hS : ShX M) (hw : CW M p w) (hW : WOk w) (hi : i < w 0 (cix 2)) (kk : Q (some (vI (w 2 i))) M) : Ok G mX7_kindOfThing d 0 0 [vR p, vI i] M Q := by
  obtain ⟨d, rfl⟩ : ∃ e, d = e + 1 := ⟨d - 1, by omega⟩
  refine Ok_of rfl (Nat.le_of_ble_eq_true rfl) rfl ?_
  have hl := l7' hk 9 (r := p + 2) (n := 10) (Nat.le_of_ble_eq_true rfl) (Nat.le_of_ble_eq_true rfl) rfl rfl
  have hb := hW.1
  refine bX7_kindOfThing_0 _ hk _ hS (ok_entry (k7' hk 9 (Nat.le_of_ble_eq_true rfl) (Nat.le_of_ble_eq_true rfl) rfl) hS (by rw [hl]; simp [cix] at hi; omega) ⟨_, rfl, hS, ?_⟩)
  rw [hw.2.2 2 (by decide) (by decide) i hi]
  exact kk
theorem ok_neederOf {p i : Nat} {w : WT} (hd : 1 ≤ d) (hk : kd p = 7) (hS : ShX M) (hw : CW M p w) (hW : WOk w) (hi : i < w 0 (cix 3)) (kk : Q (some (vI (w 3 i))) M) : Ok G mX7_neederOf d 0 0 [vR p, vI i] M Q := by
  obtain ⟨d, rfl⟩ : ∃ e, d = e + 1 := ⟨d - 1, by omega⟩
  refine Ok_of rfl (Nat.le_of_ble_eq_true rfl) rfl ?_
  have hl := l7' hk 10 (r := p + 3) (n := 12) (Nat.le_of_ble_eq_true rfl) (Nat.le_of_ble_eq_true rfl) rfl rfl
  have hb := hW.1
  refine bX7_neederOf_0 _ hk _ hS (ok_entry (k7' hk 10 (Nat.le_of_ble_eq_true rfl) (Nat.le_of_ble_eq_true rfl) rfl) hS (by rw [hl]; simp [cix] at hi; omega) ⟨_, rfl, hS, ?_⟩)
  rw [hw.2.2 3 (by decide) (by decide) i hi]
  exact kk
theorem ok_neededOf {p i : Nat} {w : WT} (hd : 1 ≤ d) (hk : kd p = 7) (hS : ShX M) (hw : CW M p w) (hW : WOk w) (hi : i < w 0 (cix 4)) (kk : Q (some (vI (w 4 i))) M) : Ok G mX7_neededOf d 0 0 [vR p, vI i] M Q := by
  obtain ⟨d, rfl⟩ : ∃ e, d = e + 1 := ⟨d - 1, by omega⟩
  refine Ok_of rfl (Nat.le_of_ble_eq_true rfl) rfl ?_
  have hl := l7' hk 11 (r := p + 4) (n := 12) (Nat.le_of_ble_eq_true rfl) (Nat.le_of_ble_eq_true rfl) rfl rfl
  have hb := hW.1
  refine bX7_neededOf_0 _ hk _ hS (ok_entry (k7' hk 11 (Nat.le_of_ble_eq_true rfl) (Nat.le_of_ble_eq_true rfl) rfl) hS (by rw [hl]; simp [cix] at hi; omega) ⟨_, rfl, hS, ?_⟩)
  rw [hw.2.2 4 (by decide) (by decide) i hi]
  exact kk
theorem ok_thingOfPerson {p i : Nat} {w : WT} (hd : 1 ≤ d) (hk : kd p = 7) (hS : ShX M) (hw : CW M p w) (hW : WOk w) (hi : i < w 0 (cix 5)) (kk : Q (some (vI (w 5 i))) M) : Ok G mX7_thingOfPerson d 0 0 [vR p, vI i] M Q := by
  obtain ⟨d, rfl⟩ : ∃ e, d = e + 1 := ⟨d - 1, by omega⟩
  refine Ok_of rfl (Nat.le_of_ble_eq_true rfl) rfl ?_
  have hl := l7' hk 12 (r := p + 5) (n := 8) (Nat.le_of_ble_eq_true rfl) (Nat.le_of_ble_eq_true rfl) rfl rfl
  have hb := hW.1
  refine bX7_thingOfPerson_0 _ hk _ hS (ok_entry (k7' hk 12 (Nat.le_of_ble_eq_true rfl) (Nat.le_of_ble_eq_true rfl) rfl) hS (by rw [hl]; simp [cix] at hi; omega) ⟨_, rfl, hS, ?_⟩)
  rw [hw.2.2 5 (by decide) (by decide) i hi]
  exact kk
theorem ok_weightOfPerson {p i : Nat} {w : WT} (hd : 1 ≤ d) (hk : kd p = 7) (hS : ShX M) (hw : CW M p w) (hW : WOk w) (hi : i < w 0 (cix 6)) (kk : Q (some (vI (w 6 i))) M) : Ok G mX7_weightOfPerson d 0 0 [vR p, vI i] M Q := by
  obtain ⟨d, rfl⟩ : ∃ e, d = e + 1 := ⟨d - 1, by omega⟩
  refine Ok_of rfl (Nat.le_of_ble_eq_true rfl) rfl ?_
  have hl := l7' hk 13 (r := p + 6) (n := 8) (Nat.le_of_ble_eq_true rfl) (Nat.le_of_ble_eq_true rfl) rfl rfl
  have hb := hW.1
  refine bX7_weightOfPerson_0 _ hk _ hS (ok_entry (k7' hk 13 (Nat.le_of_ble_eq_true rfl) (Nat.le_of_ble_eq_true rfl) rfl) hS (by rw [hl]; simp [cix] at hi; omega) ⟨_, rfl, hS, ?_⟩)
  rw [hw.2.2 6 (by decide) (by decide) i hi]
  exact kk
theorem ok_pullOfBeast {p i : Nat} {w : WT} (hd : 1 ≤ d) (hk : kd p = 7) (hS : ShX M) (hw : CW M p w) (hW : WOk w) (hi : i < w 0 (cix 7)) (kk : Q (some (vI (w 7 i))) M) : Ok G mX7_pullOfBeast d 0 0 [vR p, vI i] M Q := by
  obtain ⟨d, rfl⟩ : ∃ e, d = e + 1 := ⟨d - 1, by omega⟩
  refine Ok_of rfl (Nat.le_of_ble_eq_true rfl) rfl ?_
  have hl := l7' hk 14 (r := p + 7) (n := 4) (Nat.le_of_ble_eq_true rfl) (Nat.le_of_ble_eq_true rfl) rfl rfl
  have hb := hW.1
  refine bX7_pullOfBeast_0 _ hk _ hS (ok_entry (k7' hk 14 (Nat.le_of_ble_eq_true rfl) (Nat.le_of_ble_eq_true rfl) rfl) hS (by rw [hl]; simp [cix] at hi; omega) ⟨_, rfl, hS, ?_⟩)
  rw [hw.2.2 7 (by decide) (by decide) i hi]
  exact kk
theorem ok_takenBy {p i : Nat} {w : WT} (hd : 1 ≤ d) (hk : kd p = 7) (hS : ShX M) (hw : CW M p w) (hW : WOk w) (hi : i < w 0 (cix 8)) (kk : Q (some (vI (w 8 i))) M) : Ok G mX7_takenBy d 0 0 [vR p, vI i] M Q := by
  obtain ⟨d, rfl⟩ : ∃ e, d = e + 1 := ⟨d - 1, by omega⟩
  refine Ok_of rfl (Nat.le_of_ble_eq_true rfl) rfl ?_
  have hl := l7' hk 15 (r := p + 8) (n := 6) (Nat.le_of_ble_eq_true rfl) (Nat.le_of_ble_eq_true rfl) rfl rfl
  have hb := hW.1
  refine bX7_takenBy_0 _ hk _ hS (ok_entry (k7' hk 15 (Nat.le_of_ble_eq_true rfl) (Nat.le_of_ble_eq_true rfl) rfl) hS (by rw [hl]; simp [cix] at hi; omega) ⟨_, rfl, hS, ?_⟩)
  rw [hw.2.2 8 (by decide) (by decide) i hi]
  exact kk
theorem ok_givenBy {p i : Nat} {w : WT} (hd : 1 ≤ d) (hk : kd p = 7) (hS : ShX M) (hw : CW M p w) (hW : WOk w) (hi : i < w 0 (cix 9)) (kk : Q (some (vI (w 9 i))) M) : Ok G mX7_givenBy d 0 0 [vR p, vI i] M Q := by
  obtain ⟨d, rfl⟩ : ∃ e, d = e + 1 := ⟨d - 1, by omega⟩
  refine Ok_of rfl (Nat.le_of_ble_eq_true rfl) rfl ?_
  have hl := l7' hk 16 (r := p + 9) (n := 6) (Nat.le_of_ble_eq_true rfl) (Nat.le_of_ble_eq_true rfl) rfl rfl
  have hb := hW.1
  refine bX7_givenBy_0 _ hk _ hS (ok_entry (k7' hk 16 (Nat.le_of_ble_eq_true rfl) (Nat.le_of_ble_eq_true rfl) rfl) hS (by rw [hl]; simp [cix] at hi; omega) ⟨_, rfl, hS, ?_⟩)
  rw [hw.2.2 9 (by decide) (by decide) i hi]
  exact kk
theorem ok_takenMuchBy {p i : Nat} {w : WT} (hd : 1 ≤ d) (hk : kd p = 7) (hS : ShX M) (hw : CW M p w) (hW : WOk w) (hi : i < w 0 (cix 10)) (kk : Q (some (vI (w 10 i))) M) : Ok G mX7_takenMuchBy d 0 0 [vR p, vI i] M Q := by
  obtain ⟨d, rfl⟩ : ∃ e, d = e + 1 := ⟨d - 1, by omega⟩
  refine Ok_of rfl (Nat.le_of_ble_eq_true rfl) rfl ?_
  have hl := l7' hk 17 (r := p + 10) (n := 6) (Nat.le_of_ble_eq_true rfl) (Nat.le_of_ble_eq_true rfl) rfl rfl
  have hb := hW.1
  refine bX7_takenMuchBy_0 _ hk _ hS (ok_entry (k7' hk 17 (Nat.le_of_ble_eq_true rfl) (Nat.le_of_ble_eq_true rfl) rfl) hS (by rw [hl]; simp [cix] at hi; omega) ⟨_, rfl, hS, ?_⟩)
  rw [hw.2.2 10 (by decide) (by decide) i hi]
  exact kk
theorem ok_givenMuchBy {p i : Nat} {w : WT} (hd : 1 ≤ d) (hk : kd p = 7) (hS : ShX M) (hw : CW M p w) (hW : WOk w) (hi : i < w 0 (cix 11)) (kk : Q (some (vI (w 11 i))) M) : Ok G mX7_givenMuchBy d 0 0 [vR p, vI i] M Q := by
  obtain ⟨d, rfl⟩ : ∃ e, d = e + 1 := ⟨d - 1, by omega⟩
  refine Ok_of rfl (Nat.le_of_ble_eq_true rfl) rfl ?_
  have hl := l7' hk 18 (r := p + 11) (n := 6) (Nat.le_of_ble_eq_true rfl) (Nat.le_of_ble_eq_true rfl) rfl rfl
  have hb := hW.1
  refine bX7_givenMuchBy_0 _ hk _ hS (ok_entry (k7' hk 18 (Nat.le_of_ble_eq_true rfl) (Nat.le_of_ble_eq_true rfl) rfl) hS (by rw [hl]; simp [cix] at hi; omega) ⟨_, rfl, hS, ?_⟩)
  rw [hw.2.2 11 (by decide) (by decide) i hi]
  exact kk
theorem ok_isSet {a : Int} {w : WT} (hS : ShX M) (hT : TB M w) (kk : Q (some (vI (if 0 ≤ a ∧ a < ((2 ^ w 0 0 : Nat) : Int) then 1 else 0))) M) : Ok G mX6_isSet d 0 0 [vR 30, vI a] M Q := by
  refine Ok_of rfl (Nat.le_of_ble_eq_true rfl) rfl ?_
  refine bX6_isSet_0 _ hS ⟨fun h => ?_, fun h => ⟨fun h2 => ?_, fun h2 => ?_⟩⟩
  · rwa [if_neg (by omega)] at kk
  · rw [hT.1] at h2
    rwa [if_neg (by omega)] at kk
  · rw [hT.1] at h2
    rwa [if_pos (by omega)] at kk
theorem ok_strengthOf' {s : Nat} (hS : ShX M) (hs : s < 1024) (kk : Q (some (vI (gI M 31 s))) M) : Ok G mX6_strengthOf d 0 0 [vR 30, vI s] M Q := by
  refine Ok_of rfl (Nat.le_of_ble_eq_true rfl) rfl ?_
  refine bX6_strengthOf_0 _ hS ⟨fun h => by omega, fun h => ⟨fun h2 => by omega, fun h2 => ⟨by omega, ?_⟩⟩⟩
  rw [Int.toNat_natCast]
  exact kk
theorem ok_strengthOf {s : Nat} {w : WT} (hS : ShX M) (hT : TB M w) (hW : WOk w) (hs : s < 2 ^ w 0 0) (kk : Q (some (vI (str w s : Nat))) M) : Ok G mX6_strengthOf d 0 0 [vR 30, vI s] M Q := by
  refine ok_strengthOf' hS (set_lt hW hs) ?_
  rw [(hT.2 s hs).1]
  exact kk
theorem ok_followersOf' {s : Nat} (hS : ShX M) (hs : s < 1024) (kk : Q (some (vI (gI M 32 s))) M) : Ok G mX6_followersOf d 0 0 [vR 30, vI s] M Q := by
  refine Ok_of rfl (Nat.le_of_ble_eq_true rfl) rfl ?_
  refine bX6_followersOf_0 _ hS ⟨fun h => by omega, fun h => ⟨fun h2 => by omega, fun h2 => ⟨by omega, ?_⟩⟩⟩
  rw [Int.toNat_natCast]
  exact kk
theorem ok_followersOf {s : Nat} {w : WT} (hS : ShX M) (hT : TB M w) (hW : WOk w) (hs : s < 2 ^ w 0 0) (kk : Q (some (vI (fol w s : Nat))) M) : Ok G mX6_followersOf d 0 0 [vR 30, vI s] M Q := by
  refine ok_followersOf' hS (set_lt hW hs) ?_
  rw [(hT.2 s hs).2.1]
  exact kk
theorem ok_missersOf' {s : Nat} (hS : ShX M) (hs : s < 1024) (kk : Q (some (vI (gI M 33 s))) M) : Ok G mX6_missersOf d 0 0 [vR 30, vI s] M Q := by
  refine Ok_of rfl (Nat.le_of_ble_eq_true rfl) rfl ?_
  refine bX6_missersOf_0 _ hS ⟨fun h => by omega, fun h => ⟨fun h2 => by omega, fun h2 => ⟨by omega, ?_⟩⟩⟩
  rw [Int.toNat_natCast]
  exact kk
theorem ok_missersOf {s : Nat} {w : WT} (hS : ShX M) (hT : TB M w) (hW : WOk w) (hs : s < 2 ^ w 0 0) (kk : Q (some (vI (mis w (fol w s) : Nat))) M) : Ok G mX6_missersOf d 0 0 [vR 30, vI s] M Q := by
  refine ok_missersOf' hS (set_lt hW hs) ?_
  rw [(hT.2 s hs).2.2.1]
  exact kk
theorem ok_lossOf' {s : Nat} (hS : ShX M) (hs : s < 1024) (kk : Q (some (vI (gI M 34 s))) M) : Ok G mX6_lossOf d 0 0 [vR 30, vI s] M Q := by
  refine Ok_of rfl (Nat.le_of_ble_eq_true rfl) rfl ?_
  refine bX6_lossOf_0 _ hS ⟨fun h => by omega, fun h => ⟨fun h2 => by omega, fun h2 => ⟨by omega, ?_⟩⟩⟩
  rw [Int.toNat_natCast]
  exact kk
theorem ok_lossOf {s : Nat} {w : WT} (hS : ShX M) (hT : TB M w) (hW : WOk w) (hs : s < 2 ^ w 0 0) (kk : Q (some (vI (los w s : Nat))) M) : Ok G mX6_lossOf d 0 0 [vR 30, vI s] M Q := by
  refine ok_lossOf' hS (set_lt hW hs) ?_
  rw [(hT.2 s hs).2.2.2]
  exact kk
theorem ok_costOf {s g : Nat} {w : WT} (hd : 1 ≤ d) (hS : ShX M) (hT : TB M w) (hW : WOk w) (hs : s < 2 ^ w 0 0) (hg : g < 2 ^ w 0 0) (kk : Q (some (vI ((los w (g ||| s) : Nat) - (los w g : Nat) : Int))) M) : Ok G mX6_costOf d 0 0 [vR 30, vI s, vI g] M Q := by
  obtain ⟨d, rfl⟩ : ∃ e, d = e + 1 := ⟨d - 1, by omega⟩
  refine Ok_of rfl (Nat.le_of_ble_eq_true rfl) rfl ?_
  have h1 := set_lt hW hs
  have h2 := set_lt hW hg
  have h3 := los_le hW (g ||| s)
  have h4 := los_le hW g
  refine bX6_costOf_0 _ _ hS ?_
  rw [ior_n (by omega) (by omega)]
  exact ok_lossOf hS hT hW (or_lt hg hs) ⟨_, rfl, hS, ok_lossOf hS hT hW hg ⟨_, rfl, hS, ⟨by omega, by omega⟩, kk⟩⟩
/-- what is there besides a set that is gone -/
def thr (w : WT) (g : Nat) : Nat := nd (2 ^ w 0 0 - 1) (fol w g)
theorem thr_lt {w : WT} {g : Nat} : thr w g < 2 ^ w 0 0 := nd_lt (by have := Nat.two_pow_pos (w 0 0); omega)
theorem ok_thereBesides {g : Nat} {w : WT} (hd : 1 ≤ d) (hS : ShX M) (hT : TB M w) (hW : WOk w) (hg : g < 2 ^ w 0 0) (kk : Q (some (vI (thr w g : Nat))) M) : Ok G mX6_thereBesides d 0 0 [vR 30, vI g] M Q := by
  obtain ⟨d, rfl⟩ : ∃ e, d = e + 1 := ⟨d - 1, by omega⟩
  refine Ok_of rfl (Nat.le_of_ble_eq_true rfl) rfl ?_
  have h1 := pow_le hW
  have h2 := Nat.two_pow_pos (w 0 0)
  have e : gI M 30 0 - 1 = ((2 ^ w 0 0 - 1 : Nat) : Int) := by rw [hT.1]; omega
  refine bX6_thereBesides_0 _ hS ?_
  rw [e]
  refine ⟨⟨by omega, by omega⟩, ok_followersOf hS hT hW hg ⟨_, rfl, hS, ?_⟩⟩
  rw [ind_n (by omega)]
  exact kk
def sT (w : WT) (s n : Nat) : Nat := sm (fun t => (if s.testBit t then w 1 t else 0) + (if s.testBit t && w 2 t == 1 then w 1 t else 0)) n
theorem ok_sumOfStrength {p s : Nat} {w : WT} (hd : 2 ≤ d) (hk : kd p = 7) (hS : ShX M) (hw : CW M p w) (hW : WOk w) (hs : s < 1024) (kk : Q (some (vI (str w s : Nat))) M) : Ok G mX6_sumOfStrength d 0 0 [vR p, vI s] M Q := by
  obtain ⟨d, rfl⟩ : ∃ e, d = e + 1 := ⟨d - 1, by omega⟩
  refine Ok_of rfl (Nat.le_of_ble_eq_true rfl) rfl ?_
  have hkm := km_lt hW 1
  refine bX6_sumOfStrength_0 _ hk _ hS ?_
  rw [hw.2.1.1, iand_n (by omega)]
  refine ok_bitCount (and_lt hs) ⟨_, rfl, hS, ?_⟩
  have hn := hW.1.1
  have eC : pc (s &&& km w 1) 10 = sC w s (w 0 0) := by
    have key : ∀ m, w 0 0 ≤ m → m ≤ 10 → pc (s &&& km w 1) m = sC w s (w 0 0) := by
      intro m
      induction m with
      | zero => intro h1 _; rw [show w 0 0 = 0 by omega]; rfl
      | succ m ih =>
        intro h1 h2
        show pc (s &&& km w 1) m + (if (s &&& km w 1).testBit m then 1 else 0) = _
        rcases Nat.lt_or_ge m (w 0 0) with q | q
        · have e : w 0 0 = m + 1 := by omega
          rw [e]
          show _ = sC w s m + (if s.testBit m && w 2 m == 1 then 1 else 0)
          congr 1
          · refine sm_cong fun i hi => ?_
            rw [Nat.testBit_and]
            unfold km
            rw [mk_bit]
            have : i < w 0 0 := by omega
            simp [this]
          · rw [Nat.testBit_and]
            unfold km
            rw [mk_bit]
            have : m < w 0 0 := by omega
            simp [this]
        · rw [ih q (by omega), Nat.testBit_and]
          unfold km
          rw [mk_bit]
          have : ¬ m < w 0 0 := by omega
          simp [this]
    exact key 10 hn (Nat.le_refl _)
  rw [eC]
  have hC := sC_le (w := w) (s := s) (n := w 0 0)
  have hb : ∀ t, t < w 0 0 → w 1 t ≤ 20 := fun t ht => (hW.2.1 t ht).1
  have hand : s &&& km w 1 < 1024 := and_lt hs
  have e0 : gI M p 0 = w 0 0 := hw.1 0 (by decide)
  by_cases hc : 1 < sC w s (w 0 0)
  · rw [if_neg (by omega)]
    have es : str w s = sT w s (w 0 0) := by
      unfold str
      rw [if_pos hc]
      unfold sT
      rw [sm_add]
      rfl
    refine down (fun i => Wp G mX6_sumOfStrength (d + 1) 0 0 27 [some (vR p), some (vI s), some (vI (s &&& km w 1 : Nat)), some (vI 1), some (vI (sT w s i : Nat)), some (vI (i : Int)), none] [] M 0 0 Q) (n := w 0 0) ?_ ?_ 0 (Nat.zero_le _)
    · refine bX6_sumOfStrength_27 _ hk _ _ _ _ _ hS ⟨fun _ => ?_, fun h => absurd h (by omega)⟩
      rw [← es]
      exact kk
    · intro i hi ih
      have hle := sm_le (f := fun t => (if s.testBit t then w 1 t else 0) + (if s.testBit t && w 2 t == 1 then w 1 t else 0)) (c := 40) (n := i) (fun t ht => by
        have := hb t (by omega)
        show (if s.testBit t then w 1 t else 0) + (if s.testBit t && w 2 t == 1 then w 1 t else 0) ≤ 40
        split <;> split <;> omega)
      replace hle : sT w s i ≤ i * 40 := hle
      have hbi := hb i hi
      have e2 : sT w s (i + 1) = sT w s i + ((if s.testBit i then w 1 i else 0) + (if s.testBit i && w 2 i == 1 then w 1 i else 0)) := rfl
      rw [e2] at ih
      refine bX6_sumOfStrength_27 _ hk _ _ _ _ _ hS ⟨fun h => absurd h (by omega), fun _ => ?_⟩
      rw [bit_n (by omega) (by omega), bit_n (by omega) (by omega), Nat.testBit_and]
      have ek : (km w 1).testBit i = (w 2 i == 1) := by
        unfold km
        rw [mk_bit]
        simp [hi]
      rw [ek]
      cases hsb : s.testBit i
      · rw [hsb] at ih
        exact ⟨fun _ => ⟨⟨by omega, by omega⟩, ih⟩, fun h => absurd h (by simp)⟩
      · rw [hsb] at ih
        refine ⟨fun h => absurd rfl h, fun _ => ⟨fun h => absurd h (by decide), fun _ => ok_strengthOfThing (by omega) hk hS hw hW hi ⟨_, rfl, hS, ?_⟩⟩⟩
        cases hkd : (w 2 i == 1)
        · rw [hkd] at ih
          simp at ih ⊢
          refine ⟨by omega, by omega, by omega, ih⟩
        · rw [hkd] at ih
          simp at ih ⊢
          refine ⟨by omega, by omega, by omega, ?_⟩
          rw [show (2 : Int) * (w 1 i : Int) = ((w 1 i : Int) + (w 1 i : Int)) by omega]
          exact ih
  · rw [if_pos (by omega)]
    have es : str w s = sm (fun t => if s.testBit t then w 1 t else 0) (w 0 0) := by
      unfold str
      rw [if_neg hc]
      rfl
    refine down (fun i => Wp G mX6_sumOfStrength (d + 1) 0 0 27 [some (vR p), some (vI s), some (vI (s &&& km w 1 : Nat)), some (vI 0), some (vI (sm (fun t => if s.testBit t then w 1 t else 0) i : Nat)), some (vI (i : Int)), none] [] M 0 0 Q) (n := w 0 0) ?_ ?_ 0 (Nat.zero_le _)
    · refine bX6_sumOfStrength_27 _ hk _ _ _ _ _ hS ⟨fun _ => ?_, fun h => absurd h (by omega)⟩
      rw [← es]
      exact kk
    · intro i hi ih
      have hle := sm_le (f := fun t => if s.testBit t then w 1 t else 0) (c := 20) (n := i) (fun t ht => by
        have := hb t (by omega)
        show (if s.testBit t then w 1 t else 0) ≤ 20
        split <;> omega)
      have hbi := hb i hi
      have e2 : sm (fun t => if s.testBit t then w 1 t else 0) (i + 1) = sm (fun t => if s.testBit t then w 1 t else 0) i + (if s.testBit i then w 1 i else 0) := rfl
      rw [e2] at ih
      refine bX6_sumOfStrength_27 _ hk _ _ _ _ _ hS ⟨fun h => absurd h (by omega), fun _ => ?_⟩
      rw [bit_n (by omega) (by omega)]
      cases hsb : s.testBit i
      · rw [hsb] at ih
        exact ⟨fun _ => ⟨⟨by omega, by omega⟩, ih⟩, fun h => absurd h (by simp)⟩
      · rw [hsb] at ih
        refine ⟨fun h => absurd rfl h, fun _ => ⟨fun _ => ok_strengthOfThing (by omega) hk hS hw hW hi ⟨_, rfl, hS, ?_⟩, fun h => absurd rfl h⟩⟩
        simp at ih ⊢
        refine ⟨by omega, by omega, by omega, ih⟩
end TABL
