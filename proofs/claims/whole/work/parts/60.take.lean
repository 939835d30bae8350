/-! ===== World.take: an item into the draft ===== -/
theorem cix_v : cix 1 = 0 ∧ cix 2 = 0 ∧ cix 3 = 1 ∧ cix 4 = 1 ∧ cix 5 = 2 ∧ cix 6 = 2 ∧ cix 7 = 3 ∧ cix 8 = 4 ∧ cix 9 = 4 ∧ cix 10 = 4 ∧ cix 11 = 4 := by decide
theorem cix_5 : ∀ j, cix j < 5 := fun j => by
  rcases Nat.lt_or_ge j 12 with q | q
  · exact (by decide : ∀ j, j < 12 → cix j < 5) j q
  · have : cix j = 0 := by
      unfold cix
      show (([0, 0, 0, 1, 1, 2, 2, 3, 4, 4, 4, 4] : List Nat)[j]?).getD 0 = 0
      rw [List.getElem?_eq_none (by show 12 ≤ j; exact q)]
      rfl
    omega
theorem CW.add {M M' : MM} {p c : Nat} {w w' : WT} (hw : CW M p w) (h0 : ∀ j, j < 5 → w' 0 j = if j = c then w 0 c + 1 else w 0 j)
    (hf : ∀ j, j < 5 → gI M' p j = if j = c then ((w 0 c + 1 : Nat) : Int) else gI M p j) (hk : gI M' p 5 = km w' 1 ∧ gI M' p 6 = km w' 2 ∧ gI M' p 7 = km w' 3)
    (ht : ∀ j, 1 ≤ j → j ≤ 11 → ∀ i, i < w 0 (cix j) → gI M' (p + j) i = gI M (p + j) i ∧ w' j i = w j i) (hn : ∀ j, 1 ≤ j → j ≤ 11 → cix j = c → gI M' (p + j) (w 0 c) = w' j (w 0 c)) : CW M' p w' := by
  refine ⟨fun j hj => ?_, hk, fun j h1 h2 i hi => ?_⟩
  · rw [hf j hj, h0 j hj]
    split
    · rfl
    · exact hw.1 j hj
  · rw [h0 _ (cix_5 j)] at hi
    by_cases e : cix j = c
    · rw [if_pos e] at hi
      by_cases ei : i = w 0 c
      · rw [ei]; exact hn j h1 h2 e
      · obtain ⟨a, b⟩ := ht j h1 h2 i (by rw [e]; omega)
        rw [a, b]
        exact hw.2.2 j h1 h2 i (by rw [e]; omega)
    · rw [if_neg e] at hi
      obtain ⟨a, b⟩ := ht j h1 h2 i hi
      rw [a, b]
      exact hw.2.2 j h1 h2 i hi
/-- an entry of a table that isn't the new one -/
theorem cix_ne {w : WT} {c j0 : Nat} (h0 : cix j0 = c) {j i : Nat} (hi : i < w 0 (cix j)) : ¬ (j = j0 ∧ i = w 0 c) := fun z => by
  rw [z.1, h0] at hi
  omega
section TAKE
variable {G : GG} {M : MM} {d : Nat} {Q : Option AV → MM → Prop} {w : WT} {p : Nat}
theorem ok7_clear (hk : kd p = 7) (hS : ShX M) (kk : ∀ M', Ch (Pwo p) M M' → CW M' p w00 → Q none M') : Ok G mX7_clear d 0 0 [vR p] M Q := by
  refine Ok_of rfl (Nat.le_of_ble_eq_true rfl) rfl ?_
  refine bX7_clear_0 _ hk hS ?_
  rintro _ rfl _ rfl _ rfl _ rfl _ rfl _ rfl _ rfl _ rfl
  have hp : Pwo p p := ⟨Nat.le_refl _, by omega⟩
  have c := (((((((Ch.rf (P := Pwo p) (M := M)).st (k := 0) (x := 0) hp).st (k := 1) (x := 0) hp).st (k := 2) (x := 0) hp).st (k := 3) (x := 0) hp).st (k := 4) (x := 0) hp).st (k := 5) (x := 0) hp).st (k := 6) (x := 0) hp
  refine kk _ (c.st (k := 7) (x := 0) hp) ⟨fun j hj => ?_, ⟨?_, ?_, ?_⟩, fun j _ _ i hi => absurd hi (Nat.not_lt_zero i)⟩
  · have : j = 0 ∨ j = 1 ∨ j = 2 ∨ j = 3 ∨ j = 4 := by omega
    rcases this with rfl | rfl | rfl | rfl | rfl <;> simp [gI_st, w00]
  · simp [gI_st]; rfl
  · simp [gI_st]; rfl
  · simp [gI_st]; rfl
theorem ok7_areTwoThings {a b : Nat} (hk : kd p = 7) (hS : ShX M) (hw : CW M p w) (k1 : (a < w 0 0 ∧ b < w 0 0 ∧ a ≠ b) → Q (some (vI 1)) M) (k0 : ¬ (a < w 0 0 ∧ b < w 0 0 ∧ a ≠ b) → Q (some (vI 0)) M) : Ok G mX7_areTwoThings d 0 0 [vR p, vI a, vI b] M Q := by
  refine Ok_of rfl (Nat.le_of_ble_eq_true rfl) rfl ?_
  have e0 := hw.1 0 (by decide)
  exact bX7_areTwoThings_0 _ hk _ _ hS ⟨fun h => k0 (by omega), fun h => ⟨fun h => k0 (by omega), fun h => ⟨fun h => k0 (by omega), fun h => k1 (by omega)⟩⟩⟩
theorem ok7_isOneFigure {a : Nat} (k1 : (1 ≤ a ∧ a ≤ 9) → Q (some (vI 1)) M) (k0 : ¬ (1 ≤ a ∧ a ≤ 9) → Q (some (vI 0)) M) : Ok G mX7_isOneFigure d 0 0 [vI a] M Q := by
  refine Ok_of rfl (Nat.le_of_ble_eq_true rfl) rfl ?_
  exact bX7_isOneFigure_0 _ ⟨fun h => k0 (by omega), fun h => ⟨fun h => k0 (by omega), fun h => k1 (by omega)⟩⟩
theorem ok7_takeBeast {x : Nat → Nat} (hk : kd p = 7) (hS : ShX M) (hw : CW M p w) (hW : WOk w) (k0 : ¬ okI w 98 x → Q (some (vI 0)) M) (k1 : okI w 98 x → ∀ M', Ch (Pwo p) M M' → CW M' p (adB w x) → Q (some (vI 1)) M') : Ok G mX7_takeBeast d 0 0 [vR p, vI (x 0)] M Q := by
  refine Ok_of rfl (Nat.le_of_ble_eq_true rfl) rfl ?_
  have e := hw.1 3 (by decide)
  have hb := hW.1.2.2.2.1
  have hi := okI_b (w := w) (x := x)
  refine bX7_takeBeast_0 _ hk _ hS ⟨fun h => by omega, fun _ => ⟨fun h => k0 fun z => by have := hi.mp z; omega, fun h => ⟨fun h => k0 fun z => by have := hi.mp z; omega, fun h => ⟨fun h => ⟨by omega, ?_⟩, fun h => k0 fun z => by have := hi.mp z; omega⟩⟩⟩⟩
  rw [e, Int.toNat_natCast]
  rintro _ rfl
  have e3 : gI (stI M (p + 7) (w 0 3) (x 0)) p 3 = (w 0 3 : Nat) := (gI_ne _ _ (by omega)).trans e
  rw [e3]
  refine ⟨⟨by omega, by omega⟩, ?_⟩
  rintro _ rfl
  refine k1 (hi.mpr ⟨by omega, by omega, by omega⟩) _ ((Ch.rf.st ⟨by omega, by omega⟩).st ⟨by omega, by omega⟩) (hw.add (c := 3) (fun j hj => ?_) (fun j hj => ?_) ⟨?_, ?_, ?_⟩ (fun j h1 h2 i hi => ⟨?_, ?_⟩) fun j h1 h2 h3 => ?_)
  · unfold adB; rw [up_at]
    by_cases ej : j = 3
    · rw [if_pos ⟨rfl, ej⟩, if_pos ej]
    · rw [if_neg (fun z => ej z.2), if_neg ej, up_ne (by omega)]
  · rw [gI_st]
    by_cases ej : j = 3
    · rw [if_pos ⟨rfl, ej⟩, if_pos ej]; rfl
    · rw [if_neg (fun z => ej z.2), if_neg ej, gI_ne _ _ (by omega)]
  · rw [gI_ne _ _ (by omega), gI_ne _ _ (by omega)]; exact hw.2.1.1
  · rw [gI_ne _ _ (by omega), gI_ne _ _ (by omega)]; exact hw.2.1.2.1
  · rw [gI_ne _ _ (by omega), gI_ne _ _ (by omega)]; exact hw.2.1.2.2
  · have := cix_ne (w := w) (c := 3) (j0 := 7) rfl hi
    rw [gI_ne _ _ (by omega), gI_ne _ _ (by omega)]
  · have := cix_ne (w := w) (c := 3) (j0 := 7) rfl hi
    unfold adB
    rw [up_ne (by omega), up_ne this]
  · have : j = 7 := (by decide : ∀ j, j ≤ 11 → 1 ≤ j → cix j = 3 → j = 7) j h2 h1 h3
    subst this
    unfold adB
    rw [gI_ne _ _ (by omega), gI_same, up_ne (by omega), up_same]
theorem ok7_takePerson {x : Nat → Nat} (hd : 1 ≤ d) (hk : kd p = 7) (hS : ShX M) (hw : CW M p w) (hW : WOk w) (k0 : ¬ okI w 112 x → Q (some (vI 0)) M) (k1 : okI w 112 x → ∀ M', Ch (Pwo p) M M' → CW M' p (adP w x) → Q (some (vI 1)) M') : Ok G mX7_takePerson d 0 0 [vR p, vI (x 0), vI (x 1)] M Q := by
  obtain ⟨d, rfl⟩ : ∃ e, d = e + 1 := ⟨d - 1, by omega⟩
  refine Ok_of rfl (Nat.le_of_ble_eq_true rfl) rfl ?_
  have e := hw.1 2 (by decide)
  have e0 := hw.1 0 (by decide)
  have hb := hW.1.2.2.1
  have hi := okI_p (w := w) (x := x)
  refine bX7_takePerson_0 _ hk _ _ hS ⟨fun h => by omega, fun _ => ⟨fun h => k0 fun z => ?_, fun h => ⟨fun h => k0 fun z => by have := hi.mp z; omega, fun h2 => ok7_isOneFigure (fun h3 => ⟨_, rfl, hS, fun _ => ⟨?_, ?_⟩, fun h => absurd h (by decide)⟩) (fun h3 => ⟨_, rfl, hS, fun h => absurd rfl h, fun _ => k0 fun z => h3 (hi.mp z).2.2⟩)⟩⟩⟩
  · have := hi.mp z
    rw [if_neg (by omega)] at h
    exact absurd h (by decide)
  all_goals
    have h8 : w 0 2 < 8 := by
      rcases Nat.lt_or_ge (w 0 2) 8 with q | q
      · exact q
      · exact absurd (if_pos (by omega)) h
  · omega
  rw [e, Int.toNat_natCast]
  rintro _ rfl
  have e3 : gI (stI M (p + 5) (w 0 2) (x 0)) p 2 = (w 0 2 : Nat) := (gI_ne _ _ (by omega)).trans e
  rw [e3, Int.toNat_natCast]
  refine ⟨by omega, ?_⟩
  rintro _ rfl
  have e4 : gI (stI (stI M (p + 5) (w 0 2) (x 0)) (p + 6) (w 0 2) (x 1)) p 2 = (w 0 2 : Nat) := (gI_ne _ _ (by omega)).trans e3
  rw [e4]
  refine ⟨⟨by omega, by omega⟩, ?_⟩
  rintro _ rfl
  refine k1 (hi.mpr ⟨h8, by omega, by omega, by omega⟩) _ (((Ch.rf.st ⟨by omega, by omega⟩).st ⟨by omega, by omega⟩).st ⟨by omega, by omega⟩) (hw.add (c := 2) (fun j hj => ?_) (fun j hj => ?_) ⟨?_, ?_, ?_⟩ (fun j h1 h2 i hi => ⟨?_, ?_⟩) fun j h1 h2 h3 => ?_)
  · unfold adP; rw [up_at]
    by_cases ej : j = 2
    · rw [if_pos ⟨rfl, ej⟩, if_pos ej]
    · rw [if_neg (fun z => ej z.2), if_neg ej, up_ne (by omega), up_ne (by omega)]
  · rw [gI_st]
    by_cases ej : j = 2
    · rw [if_pos ⟨rfl, ej⟩, if_pos ej]; rfl
    · rw [if_neg (fun z => ej z.2), if_neg ej, gI_ne _ _ (by omega), gI_ne _ _ (by omega)]
  · rw [gI_ne _ _ (by omega), gI_ne _ _ (by omega), gI_ne _ _ (by omega)]; exact hw.2.1.1
  · rw [gI_ne _ _ (by omega), gI_ne _ _ (by omega), gI_ne _ _ (by omega)]; exact hw.2.1.2.1
  · rw [gI_ne _ _ (by omega), gI_ne _ _ (by omega), gI_ne _ _ (by omega)]; exact hw.2.1.2.2
  · have := cix_ne (w := w) (c := 2) (j0 := 5) rfl hi
    have := cix_ne (w := w) (c := 2) (j0 := 6) rfl hi
    rw [gI_ne _ _ (by omega), gI_ne _ _ (by omega), gI_ne _ _ (by omega)]
  · have a1 := cix_ne (w := w) (c := 2) (j0 := 5) rfl hi
    have a2 := cix_ne (w := w) (c := 2) (j0 := 6) rfl hi
    unfold adP
    rw [up_ne (by omega), up_ne a2, up_ne a1]
  · have : j = 5 ∨ j = 6 := (by decide : ∀ j, j ≤ 11 → 1 ≤ j → cix j = 2 → j = 5 ∨ j = 6) j h2 h1 h3
    unfold adP
    rcases this with rfl | rfl
    · rw [gI_ne _ _ (by omega), gI_ne _ _ (by omega), gI_same, up_ne (by omega), up_ne (by omega), up_same]
    · rw [gI_ne _ _ (by omega), gI_same, up_ne (by omega), up_same]
theorem ok7_takeNeed {x : Nat → Nat} (hd : 1 ≤ d) (hk : kd p = 7) (hS : ShX M) (hw : CW M p w) (hW : WOk w) (k0 : ¬ okI w 121 x → Q (some (vI 0)) M) (k1 : okI w 121 x → ∀ M', Ch (Pwo p) M M' → CW M' p (adY w x) → Q (some (vI 1)) M') : Ok G mX7_takeNeed d 0 0 [vR p, vI (x 0), vI (x 1)] M Q := by
  obtain ⟨d, rfl⟩ : ∃ e, d = e + 1 := ⟨d - 1, by omega⟩
  refine Ok_of rfl (Nat.le_of_ble_eq_true rfl) rfl ?_
  have e := hw.1 1 (by decide)
  have hb := hW.1.2.1
  have hi := okI_y (w := w) (x := x)
  refine bX7_takeNeed_0 _ hk _ _ hS ⟨fun h => by omega, fun _ => ⟨fun h => k0 fun z => by have := hi.mp z; omega, fun h => ok7_areTwoThings hk hS hw (fun h2 => ⟨_, rfl, hS, fun _ => ⟨by omega, ?_⟩, fun h => absurd h (by decide)⟩) (fun h2 => ⟨_, rfl, hS, fun h => absurd rfl h, fun _ => k0 fun z => h2 (hi.mp z).2⟩)⟩⟩
  rw [e, Int.toNat_natCast]
  rintro _ rfl
  have e3 : gI (stI M (p + 3) (w 0 1) (x 0)) p 1 = (w 0 1 : Nat) := (gI_ne _ _ (by omega)).trans e
  rw [e3, Int.toNat_natCast]
  refine ⟨by omega, ?_⟩
  rintro _ rfl
  have e4 : gI (stI (stI M (p + 3) (w 0 1) (x 0)) (p + 4) (w 0 1) (x 1)) p 1 = (w 0 1 : Nat) := (gI_ne _ _ (by omega)).trans e3
  rw [e4]
  refine ⟨⟨by omega, by omega⟩, ?_⟩
  rintro _ rfl
  refine k1 (hi.mpr ⟨by omega, h2⟩) _ (((Ch.rf.st ⟨by omega, by omega⟩).st ⟨by omega, by omega⟩).st ⟨by omega, by omega⟩) (hw.add (c := 1) (fun j hj => ?_) (fun j hj => ?_) ⟨?_, ?_, ?_⟩ (fun j h1 h2 i hi => ⟨?_, ?_⟩) fun j h1 h2 h3 => ?_)
  · unfold adY; rw [up_at]
    by_cases ej : j = 1
    · rw [if_pos ⟨rfl, ej⟩, if_pos ej]
    · rw [if_neg (fun z => ej z.2), if_neg ej, up_ne (by omega), up_ne (by omega)]
  · rw [gI_st]
    by_cases ej : j = 1
    · rw [if_pos ⟨rfl, ej⟩, if_pos ej]; rfl
    · rw [if_neg (fun z => ej z.2), if_neg ej, gI_ne _ _ (by omega), gI_ne _ _ (by omega)]
  · rw [gI_ne _ _ (by omega), gI_ne _ _ (by omega), gI_ne _ _ (by omega)]; exact hw.2.1.1
  · rw [gI_ne _ _ (by omega), gI_ne _ _ (by omega), gI_ne _ _ (by omega)]; exact hw.2.1.2.1
  · rw [gI_ne _ _ (by omega), gI_ne _ _ (by omega), gI_ne _ _ (by omega)]; exact hw.2.1.2.2
  · have := cix_ne (w := w) (c := 1) (j0 := 3) rfl hi
    have := cix_ne (w := w) (c := 1) (j0 := 4) rfl hi
    rw [gI_ne _ _ (by omega), gI_ne _ _ (by omega), gI_ne _ _ (by omega)]
  · have a1 := cix_ne (w := w) (c := 1) (j0 := 3) rfl hi
    have a2 := cix_ne (w := w) (c := 1) (j0 := 4) rfl hi
    unfold adY
    rw [up_ne (by omega), up_ne a2, up_ne a1]
  · have : j = 3 ∨ j = 4 := (by decide : ∀ j, j ≤ 11 → 1 ≤ j → cix j = 1 → j = 3 ∨ j = 4) j h2 h1 h3
    unfold adY
    rcases this with rfl | rfl
    · rw [gI_ne _ _ (by omega), gI_ne _ _ (by omega), gI_same, up_ne (by omega), up_ne (by omega), up_same]
    · rw [gI_ne _ _ (by omega), gI_same, up_ne (by omega), up_same]
end TAKE
