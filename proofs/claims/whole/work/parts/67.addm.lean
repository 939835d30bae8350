/-! ===== the reference: what an item adds ===== -/
def ChA (M M' : MM) : Prop := M'.1 = M.1 ∧ M'.2.2 = M.2.2 ∧ ∀ q j, ¬ ((q = 96 ∧ (j = 5 ∨ j = 9 ∨ j = 10 ∨ j = 13 ∨ j = 15)) ∨ (99 ≤ q ∧ q ≤ 105)) → gI M' q j = gI M q j
theorem ChA.rf {M : MM} : ChA M M := ⟨rfl, rfl, fun _ _ _ => rfl⟩
theorem ChA.tr {A B C : MM} (h1 : ChA A B) (h2 : ChA B C) : ChA A C := ⟨h2.1.trans h1.1, h2.2.1.trans h1.2.1, fun q j h => (h2.2.2 q j h).trans (h1.2.2 q j h)⟩
theorem ChA.st {A B : MM} {p k : Nat} {x : Int} (h : ChA A B) (hp : (p = 96 ∧ (k = 5 ∨ k = 9 ∨ k = 10 ∨ k = 13 ∨ k = 15)) ∨ (99 ≤ p ∧ p ≤ 105)) : ChA A (stI B p k x) := ⟨h.1, h.2.1, fun q j hq => (gI_ne B x (fun z => hq (by rw [z.1, z.2]; exact hp))).trans (h.2.2 q j hq)⟩
theorem ChA.sh {A B : MM} (h : ChA A B) (hS : ShM A) : ShM B := hS.of h.2.1
theorem nm_new {w : WT} {a : Nat} (h : WOk w) (ha : w 0 0 ≤ a) : nm w a = 0 := by
  apply Nat.eq_of_testBit_eq
  intro j
  rw [Nat.zero_testBit]
  cases hb : (nm w a).testBit j
  · rfl
  · obtain ⟨i, h1, h2, _⟩ := nm_bit.mp hb
    have := (h.2.2.1 i h1).2
    omega
theorem nm_adY {w : WT} {x : Nat → Nat} {a : Nat} : nm (adY w x) a = nm w a ||| if x 1 = a then 2 ^ x 0 else 0 := by
  have e0 : adY w x 0 1 = w 0 1 + 1 := up_same
  have e3 : adY w x 3 (w 0 1) = x 0 := by unfold adY; rw [up_ne (by omega), up_ne (by omega), up_same]
  have e4 : adY w x 4 (w 0 1) = x 1 := by unfold adY; rw [up_ne (by omega), up_same]
  have o3 : ∀ i, i < w 0 1 → adY w x 3 i = w 3 i := fun i hi => by unfold adY; rw [up_ne (by omega), up_ne (by omega), up_ne (by omega)]
  have o4 : ∀ i, i < w 0 1 → adY w x 4 i = w 4 i := fun i hi => by unfold adY; rw [up_ne (by omega), up_ne (by omega), up_ne (by omega)]
  unfold nm
  rw [e0]
  show om (fun i => if adY w x 4 i = a then 2 ^ adY w x 3 i else 0) (w 0 1) ||| (if adY w x 4 (w 0 1) = a then 2 ^ adY w x 3 (w 0 1) else 0) = _
  rw [e3, e4, om_cong (g := fun i => if w 4 i = a then 2 ^ w 3 i else 0) (fun i hi => by rw [o3 i hi, o4 i hi])]
section ADDM
variable {G : GG} {M : MM} {d : Nat} {Q : Option AV → MM → Prop} {w : WT}
theorem ok9_addThing {x : Nat → Nat} (hS : ShM M) (hw : MW M w) (hW : WOk w) (ho : okI w 116 x) (kk : ∀ M', ChA M M' → MW M' (adT w x) → Q none M') : Ok G mX9_addThing d 0 0 [vR 96, vI (x 0), vI (x 1)] M Q := by
  refine Ok_of rfl (Nat.le_of_ble_eq_true rfl) rfl ?_
  obtain ⟨h1, h2, h3⟩ := okI_t.mp ho
  obtain ⟨⟨c0, c1, c2, c3, c4⟩, a1, a2, a3, a4⟩ := hw
  refine bX9_addThing_0 _ _ hS ?_
  rw [c0, Int.toNat_natCast]
  refine ⟨by omega, ?_⟩
  rintro _ rfl
  rw [gI_ne _ _ (by omega), c0, Int.toNat_natCast]
  refine ⟨by omega, ?_⟩
  rintro _ rfl
  rw [gI_ne _ _ (by omega), gI_ne _ _ (by omega), c0, Int.toNat_natCast]
  refine ⟨by omega, ?_⟩
  rintro _ rfl
  rw [gI_ne _ _ (by omega), gI_ne _ _ (by omega), gI_ne _ _ (by omega), c0]
  refine ⟨⟨by omega, by omega⟩, ?_⟩
  rintro _ rfl
  refine kk _ ((((ChA.rf.st (by omega)).st (by omega)).st (by omega)).st (by omega)) ⟨⟨gI_same _ _ _ _, ?_, ?_, ?_, ?_⟩, fun t ht => ⟨?_, ?_, ?_⟩, fun i hi => ⟨?_, ?_⟩, fun b hb => ?_, fun e he j hj => ?_⟩
  · rw [gI_ne _ _ (by omega), gI_ne _ _ (by omega), gI_ne _ _ (by omega), gI_ne _ _ (by omega)]; exact c1
  · rw [gI_ne _ _ (by omega), gI_ne _ _ (by omega), gI_ne _ _ (by omega), gI_ne _ _ (by omega)]; exact c2
  · rw [gI_ne _ _ (by omega), gI_ne _ _ (by omega), gI_ne _ _ (by omega), gI_ne _ _ (by omega)]; exact c3
  · rw [gI_ne _ _ (by omega), gI_ne _ _ (by omega), gI_ne _ _ (by omega), gI_ne _ _ (by omega)]; exact c4
  · have ht : t < w 0 0 + 1 := ht
    rw [gI_ne _ _ (by omega), gI_ne _ _ (by omega), gI_ne _ _ (by omega), gI_st]
    unfold adT
    rw [up_ne (by omega), up_ne (by omega), up_at]
    by_cases e : t = w 0 0
    · rw [if_pos ⟨rfl, e⟩, if_pos ⟨rfl, e⟩]
    · rw [if_neg (fun z => e z.2), if_neg (fun z => e z.2)]; exact (a1 t (by omega)).1
  · have ht : t < w 0 0 + 1 := ht
    rw [gI_ne _ _ (by omega), gI_ne _ _ (by omega), gI_st]
    unfold adT
    rw [up_ne (by omega), up_at]
    by_cases e : t = w 0 0
    · rw [if_pos ⟨rfl, e⟩, if_pos ⟨rfl, e⟩]
    · rw [if_neg (fun z => e z.2), if_neg (fun z => e z.2), gI_ne _ _ (by omega), up_ne (by omega)]; exact (a1 t (by omega)).2.1
  · have ht : t < w 0 0 + 1 := ht
    have en : nm (adT w x) t = nm w t := rfl
    rw [gI_ne _ _ (by omega), gI_st, en]
    by_cases e : t = w 0 0
    · rw [if_pos ⟨rfl, e⟩, nm_new hW (by omega)]; rfl
    · rw [if_neg (fun z => e z.2), gI_ne _ _ (by omega), gI_ne _ _ (by omega)]; exact (a1 t (by omega)).2.2
  · rw [gI_ne _ _ (by omega), gI_ne _ _ (by omega), gI_ne _ _ (by omega), gI_ne _ _ (by omega)]; exact (a2 i hi).1
  · rw [gI_ne _ _ (by omega), gI_ne _ _ (by omega), gI_ne _ _ (by omega), gI_ne _ _ (by omega)]; exact (a2 i hi).2
  · rw [gI_ne _ _ (by omega), gI_ne _ _ (by omega), gI_ne _ _ (by omega), gI_ne _ _ (by omega)]; exact a3 b hb
  · rw [gI_ne _ _ (by omega), gI_ne _ _ (by omega), gI_ne _ _ (by omega), gI_ne _ _ (by omega)]
    unfold adT
    rw [up_ne (by omega), up_ne (by omega), up_ne (by omega)]
    exact a4 e he j hj
theorem ok9_addNeed {x : Nat → Nat} (hS : ShM M) (hw : MW M w) (hW : WOk w) (ho : okI w 121 x) (kk : ∀ M', ChA M M' → MW M' (adY w x) → Q none M') : Ok G mX9_addNeed d 0 0 [vR 96, vI (x 0), vI (x 1)] M Q := by
  refine Ok_of rfl (Nat.le_of_ble_eq_true rfl) rfl ?_
  obtain ⟨h1, h2, h3, h4⟩ := okI_y.mp ho
  obtain ⟨⟨c0, c1, c2, c3, c4⟩, a1, a2, a3, a4⟩ := hw
  have h10 := hW.1.1
  have hnm := nm_lt hW (x 1)
  have hpw := pow_le hW
  have h2x : 2 ^ x 0 < 2 ^ 10 := Nat.pow_lt_pow_right (by decide) (by omega)
  refine bX9_addNeed_0 _ _ hS ?_
  rw [Int.toNat_natCast, (a1 (x 1) h3).2.2, ishl_1 (by omega), ior_n (by omega) (by omega)]
  refine ⟨by omega, ?_⟩
  rintro _ rfl
  rw [gI_ne _ _ (by omega), c1]
  refine ⟨⟨by omega, by omega⟩, ?_⟩
  rintro _ rfl
  refine kk _ ((ChA.rf.st (by omega)).st (by omega)) ⟨⟨?_, gI_same _ _ _ _, ?_, ?_, ?_⟩, fun t ht => ⟨?_, ?_, ?_⟩, fun i hi => ⟨?_, ?_⟩, fun b hb => ?_, fun e he j hj => ?_⟩
  · rw [gI_ne _ _ (by omega), gI_ne _ _ (by omega)]; exact c0
  · rw [gI_ne _ _ (by omega), gI_ne _ _ (by omega)]; exact c2
  · rw [gI_ne _ _ (by omega), gI_ne _ _ (by omega)]; exact c3
  · rw [gI_ne _ _ (by omega), gI_ne _ _ (by omega)]; exact c4
  · rw [gI_ne _ _ (by omega), gI_ne _ _ (by omega)]; exact (a1 t ht).1
  · rw [gI_ne _ _ (by omega), gI_ne _ _ (by omega)]; exact (a1 t ht).2.1
  · rw [gI_ne _ _ (by omega), gI_st, nm_adY]
    by_cases e : t = x 1
    · rw [if_pos ⟨rfl, e⟩, if_pos e.symm, e]
    · rw [if_neg (fun z => e z.2), if_neg (fun z => e z.symm), Nat.or_zero]; exact (a1 t ht).2.2
  · rw [gI_ne _ _ (by omega), gI_ne _ _ (by omega)]; exact (a2 i hi).1
  · rw [gI_ne _ _ (by omega), gI_ne _ _ (by omega)]; exact (a2 i hi).2
  · rw [gI_ne _ _ (by omega), gI_ne _ _ (by omega)]; exact a3 b hb
  · rw [gI_ne _ _ (by omega), gI_ne _ _ (by omega)]
    unfold adY
    rw [up_ne (by omega), up_ne (by omega), up_ne (by omega)]
    exact a4 e he j hj
theorem ok9_addPerson {x : Nat → Nat} (hS : ShM M) (hw : MW M w) (ho : okI w 112 x) (kk : ∀ M', ChA M M' → MW M' (adP w x) → Q none M') : Ok G mX9_addPerson d 0 0 [vR 96, vI (x 0), vI (x 1)] M Q := by
  refine Ok_of rfl (Nat.le_of_ble_eq_true rfl) rfl ?_
  obtain ⟨h1, h2, h3, h4⟩ := okI_p.mp ho
  obtain ⟨⟨c0, c1, c2, c3, c4⟩, a1, a2, a3, a4⟩ := hw
  refine bX9_addPerson_0 _ _ hS ?_
  rw [c2, Int.toNat_natCast]
  refine ⟨by omega, ?_⟩
  rintro _ rfl
  rw [gI_ne _ _ (by omega), c2, Int.toNat_natCast]
  refine ⟨by omega, ?_⟩
  rintro _ rfl
  rw [gI_ne _ _ (by omega), gI_ne _ _ (by omega), c2]
  refine ⟨⟨by omega, by omega⟩, ?_⟩
  rintro _ rfl
  refine kk _ (((ChA.rf.st (by omega)).st (by omega)).st (by omega)) ⟨⟨?_, ?_, gI_same _ _ _ _, ?_, ?_⟩, fun t ht => ⟨?_, ?_, ?_⟩, fun i hi => ⟨?_, ?_⟩, fun b hb => ?_, fun e he j hj => ?_⟩
  · rw [gI_ne _ _ (by omega), gI_ne _ _ (by omega), gI_ne _ _ (by omega)]; exact c0
  · rw [gI_ne _ _ (by omega), gI_ne _ _ (by omega), gI_ne _ _ (by omega)]; exact c1
  · rw [gI_ne _ _ (by omega), gI_ne _ _ (by omega), gI_ne _ _ (by omega)]; exact c3
  · rw [gI_ne _ _ (by omega), gI_ne _ _ (by omega), gI_ne _ _ (by omega)]; exact c4
  · rw [gI_ne _ _ (by omega), gI_ne _ _ (by omega), gI_ne _ _ (by omega)]; exact (a1 t ht).1
  · rw [gI_ne _ _ (by omega), gI_ne _ _ (by omega), gI_ne _ _ (by omega)]; exact (a1 t ht).2.1
  · rw [gI_ne _ _ (by omega), gI_ne _ _ (by omega), gI_ne _ _ (by omega)]; exact (a1 t ht).2.2
  · have hi : i < w 0 2 + 1 := hi
    unfold adP
    rw [gI_ne _ _ (by omega), gI_ne _ _ (by omega), gI_st, up_ne (by omega), up_ne (by omega), up_at]
    by_cases e : i = w 0 2
    · rw [if_pos ⟨rfl, e⟩, if_pos ⟨rfl, e⟩]
    · rw [if_neg (fun z => e z.2), if_neg (fun z => e z.2)]
      exact (a2 i (by omega)).1
  · have hi : i < w 0 2 + 1 := hi
    unfold adP
    rw [gI_ne _ _ (by omega), gI_st, up_ne (by omega), up_at]
    by_cases e : i = w 0 2
    · rw [if_pos ⟨rfl, e⟩, if_pos ⟨rfl, e⟩]
    · rw [if_neg (fun z => e z.2), if_neg (fun z => e z.2), gI_ne _ _ (by omega), up_ne (by omega)]
      exact (a2 i (by omega)).2
  · rw [gI_ne _ _ (by omega), gI_ne _ _ (by omega), gI_ne _ _ (by omega)]; exact a3 b hb
  · rw [gI_ne _ _ (by omega), gI_ne _ _ (by omega), gI_ne _ _ (by omega)]
    unfold adP
    rw [up_ne (by omega), up_ne (by omega), up_ne (by omega)]
    exact a4 e he j hj
theorem ok9_addBeast {x : Nat → Nat} (hS : ShM M) (hw : MW M w) (ho : okI w 98 x) (kk : ∀ M', ChA M M' → MW M' (adB w x) → Q none M') : Ok G mX9_addBeast d 0 0 [vR 96, vI (x 0)] M Q := by
  refine Ok_of rfl (Nat.le_of_ble_eq_true rfl) rfl ?_
  obtain ⟨h1, h2, h3⟩ := okI_b.mp ho
  obtain ⟨⟨c0, c1, c2, c3, c4⟩, a1, a2, a3, a4⟩ := hw
  refine bX9_addBeast_0 _ hS ?_
  rw [c3, Int.toNat_natCast]
  refine ⟨by omega, ?_⟩
  rintro _ rfl
  rw [gI_ne _ _ (by omega), c3]
  refine ⟨⟨by omega, by omega⟩, ?_⟩
  rintro _ rfl
  refine kk _ ((ChA.rf.st (by omega)).st (by omega)) ⟨⟨?_, ?_, ?_, gI_same _ _ _ _, ?_⟩, fun t ht => ⟨?_, ?_, ?_⟩, fun i hi => ⟨?_, ?_⟩, fun b hb => ?_, fun e he j hj => ?_⟩
  · rw [gI_ne _ _ (by omega), gI_ne _ _ (by omega)]; exact c0
  · rw [gI_ne _ _ (by omega), gI_ne _ _ (by omega)]; exact c1
  · rw [gI_ne _ _ (by omega), gI_ne _ _ (by omega)]; exact c2
  · rw [gI_ne _ _ (by omega), gI_ne _ _ (by omega)]; exact c4
  · rw [gI_ne _ _ (by omega), gI_ne _ _ (by omega)]; exact (a1 t ht).1
  · rw [gI_ne _ _ (by omega), gI_ne _ _ (by omega)]; exact (a1 t ht).2.1
  · rw [gI_ne _ _ (by omega), gI_ne _ _ (by omega)]; exact (a1 t ht).2.2
  · rw [gI_ne _ _ (by omega), gI_ne _ _ (by omega)]; exact (a2 i hi).1
  · rw [gI_ne _ _ (by omega), gI_ne _ _ (by omega)]; exact (a2 i hi).2
  · have hb : b < w 0 3 + 1 := hb
    unfold adB
    rw [gI_ne _ _ (by omega), gI_st, up_ne (by omega), up_at]
    by_cases e : b = w 0 3
    · rw [if_pos ⟨rfl, e⟩, if_pos ⟨rfl, e⟩]
    · rw [if_neg (fun z => e z.2), if_neg (fun z => e z.2)]; exact a3 b (by omega)
  · rw [gI_ne _ _ (by omega), gI_ne _ _ (by omega)]
    unfold adB
    rw [up_ne (by omega), up_ne (by omega)]
    exact a4 e he j hj
theorem ok9_addChange {x : Nat → Nat} (hS : ShM M) (hw : MW M w) (ho : okI w 120 x) (kk : ∀ M', ChA M M' → MW M' (adX w x) → Q none M') : Ok G mX9_addChange d 0 0 [vR 96, vI (x 0), vI (x 1), vI (x 2), vI (x 3)] M Q := by
  refine Ok_of rfl (Nat.le_of_ble_eq_true rfl) rfl ?_
  have h1 := (okI_x.mp ho).1
  obtain ⟨⟨c0, c1, c2, c3, c4⟩, a1, a2, a3, a4⟩ := hw
  refine bX9_addChange_0 _ _ _ _ hS ?_
  rw [c4, show (4 * ((w 0 4 : Nat) : Int)).toNat = 4 * w 0 4 by omega]
  refine ⟨⟨by omega, by omega⟩, by omega, ?_⟩
  rintro _ rfl
  rw [gI_ne _ _ (by omega), c4, show (4 * ((w 0 4 : Nat) : Int) + 1).toNat = 4 * w 0 4 + 1 by omega]
  refine ⟨⟨by omega, by omega⟩, ⟨by omega, by omega⟩, by omega, ?_⟩
  rintro _ rfl
  rw [gI_ne _ _ (by omega), gI_ne _ _ (by omega), c4, show (4 * ((w 0 4 : Nat) : Int) + 2).toNat = 4 * w 0 4 + 2 by omega]
  refine ⟨⟨by omega, by omega⟩, ⟨by omega, by omega⟩, by omega, ?_⟩
  rintro _ rfl
  rw [gI_ne _ _ (by omega), gI_ne _ _ (by omega), gI_ne _ _ (by omega), c4, show (4 * ((w 0 4 : Nat) : Int) + 3).toNat = 4 * w 0 4 + 3 by omega]
  refine ⟨⟨by omega, by omega⟩, ⟨by omega, by omega⟩, by omega, ?_⟩
  rintro _ rfl
  rw [gI_ne _ _ (by omega), gI_ne _ _ (by omega), gI_ne _ _ (by omega), gI_ne _ _ (by omega), c4]
  refine ⟨⟨by omega, by omega⟩, ?_⟩
  rintro _ rfl
  have o : ∀ q j, q ≠ 105 → ¬ (q = 96 ∧ j = 15) → gI (stI (stI (stI (stI (stI M 105 (4 * w 0 4) (x 0 : Nat)) 105 (4 * w 0 4 + 1) (x 1 : Nat)) 105 (4 * w 0 4 + 2) (x 2 : Nat)) 105 (4 * w 0 4 + 3) (x 3 : Nat)) 96 15 ((w 0 4 : Nat) + 1 : Int)) q j = gI M q j := fun q j h1 h2 => by
    rw [gI_ne _ _ h2, gI_ne _ _ (fun z => h1 z.1), gI_ne _ _ (fun z => h1 z.1), gI_ne _ _ (fun z => h1 z.1), gI_ne _ _ (fun z => h1 z.1)]
  refine kk _ (((((ChA.rf.st (by omega)).st (by omega)).st (by omega)).st (by omega)).st (by omega)) ⟨⟨(o 96 5 (by omega) (by omega)).trans c0, (o 96 9 (by omega) (by omega)).trans c1, (o 96 10 (by omega) (by omega)).trans c2, (o 96 13 (by omega) (by omega)).trans c3, gI_same _ _ _ _⟩, fun t ht => ⟨(o 99 t (by omega) (by omega)).trans (a1 t ht).1, (o 100 t (by omega) (by omega)).trans (a1 t ht).2.1, (o 101 t (by omega) (by omega)).trans (a1 t ht).2.2⟩, fun i hi => ⟨(o 102 i (by omega) (by omega)).trans (a2 i hi).1, (o 103 i (by omega) (by omega)).trans (a2 i hi).2⟩, fun b hb => (o 104 b (by omega) (by omega)).trans (a3 b hb), fun e he j hj => ?_⟩
  have he : e < w 0 4 + 1 := he
  unfold adX
  by_cases q : e = w 0 4
  · subst q
    rw [up_ne (by omega)]
    rcases (show j = 0 ∨ j = 1 ∨ j = 2 ∨ j = 3 by omega) with rfl | rfl | rfl | rfl
    · rw [up_ne (by omega), up_ne (by omega), up_ne (by omega), up_same, gI_ne _ _ (by omega), gI_ne _ _ (by omega), gI_ne _ _ (by omega), gI_ne _ _ (by omega)]; exact gI_same _ _ _ _
    · rw [up_ne (by omega), up_ne (by omega), up_same, gI_ne _ _ (by omega), gI_ne _ _ (by omega), gI_ne _ _ (by omega), gI_same]
    · rw [up_ne (by omega), up_same, gI_ne _ _ (by omega), gI_ne _ _ (by omega), gI_same]
    · rw [up_same, gI_ne _ _ (by omega), gI_same]
  · rw [up_ne (by omega), up_ne (by omega), up_ne (by omega), up_ne (by omega), up_ne (by omega), gI_ne _ _ (by omega), gI_ne _ _ (by omega), gI_ne _ _ (by omega), gI_ne _ _ (by omega), gI_ne _ _ (by omega)]
    exact a4 e (by omega) j hj
theorem ok9_tell {c : Int} {x : Nat → Nat} (hd : 1 ≤ d) (hS : ShM M) (hw : MW M w) (hW : WOk w) (hc : nb c ≠ 0) (ho : okI w c x) (hv : ∀ i, i < nb c → gI M 106 i = (x i : Nat)) (kk : ∀ M', ChA M M' → MW M' (adI w c x) → Q none M') : Ok G mX9_tell d 0 0 [vR 96, vI c] M Q := by
  obtain ⟨d, rfl⟩ : ∃ e, d = e + 1 := ⟨d - 1, by omega⟩
  refine Ok_of rfl (Nat.le_of_ble_eq_true rfl) rfl ?_
  refine bX9_tell_0 _ hS ⟨fun h => ?_, fun h => ?_, fun h => ?_, fun h => ?_, fun h => ?_⟩
  · subst h
    rw [hv 0 (by decide)]
    exact ok9_addBeast hS hw ho fun M' cc hw' => ⟨rfl, cc.sh hS, kk M' cc hw'⟩
  · subst h
    rw [hv 0 (by decide), hv 1 (by decide)]
    exact ok9_addPerson hS hw ho fun M' cc hw' => ⟨rfl, cc.sh hS, kk M' cc hw'⟩
  · subst h
    rw [hv 0 (by decide), hv 1 (by decide)]
    exact ok9_addThing hS hw hW ho fun M' cc hw' => ⟨rfl, cc.sh hS, kk M' cc hw'⟩
  · subst h
    rw [hv 0 (by decide), hv 1 (by decide)]
    exact ok9_addNeed hS hw hW ho fun M' cc hw' => ⟨rfl, cc.sh hS, kk M' cc hw'⟩
  · have hx : c = 120 := by
      have := nb_c hc
      omega
    subst hx
    rw [hv 0 (by decide), hv 1 (by decide), hv 2 (by decide), hv 3 (by decide)]
    exact ok9_addChange hS hw ho fun M' cc hw' => ⟨rfl, cc.sh hS, kk M' cc hw'⟩
end ADDM
