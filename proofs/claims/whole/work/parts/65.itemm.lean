/-! ===== the reference reads: items, the first fault ===== -/
def RC (M : MM) (w : WT) : Prop := gI M 96 19 = w 0 0 ∧ gI M 96 20 = w 0 1 ∧ gI M 96 21 = w 0 2 ∧ gI M 96 22 = w 0 3 ∧ gI M 96 23 = w 0 4
def ChT (M M' : MM) : Prop := M'.1 = M.1 ∧ M'.2.2 = M.2.2 ∧ ∀ q j, ¬ (q = 106 ∨ (q = 96 ∧ (j = 17 ∨ (19 ≤ j ∧ j ≤ 23)))) → gI M' q j = gI M q j
theorem ChT.rf {M : MM} : ChT M M := ⟨rfl, rfl, fun _ _ _ => rfl⟩
theorem ChT.tr {A B C : MM} (h1 : ChT A B) (h2 : ChT B C) : ChT A C := ⟨h2.1.trans h1.1, h2.2.1.trans h1.2.1, fun q j h => (h2.2.2 q j h).trans (h1.2.2 q j h)⟩
theorem ChT.st {A B : MM} {p k : Nat} {x : Int} (h : ChT A B) (hp : p = 106 ∨ (p = 96 ∧ (k = 17 ∨ (19 ≤ k ∧ k ≤ 23)))) : ChT A (stI B p k x) := ⟨h.1, h.2.1, fun q j hq => (gI_ne B x (fun z => hq (by rw [z.1, z.2]; exact hp))).trans (h.2.2 q j hq)⟩
theorem ChT.sh {A B : MM} (h : ChT A B) (hS : ShM A) : ShM B := hS.of h.2.1
theorem ChT.tm {A B : MM} {L : Nat} {t : Nat → Int} (h : ChT A B) (hT : TMv A L t) : TMv B L t := ⟨(h.2.2 96 4 (by omega)).trans hT.1, hT.2.1, fun i hi => (h.2.2 98 i (by omega)).trans (hT.2.2 i hi)⟩
theorem ChT.rd {K : Nat → Prop} {A B : MM} (h : RdC K A B) : ChT A B := ⟨h.1, h.2.1, fun q j hq => h.2.2 q j (fun z => hq (Or.inr ⟨z.1, Or.inl z.2⟩)) fun z => hq (Or.inl z.1)⟩
theorem RC.rd {K : Nat → Prop} {A B : MM} {w : WT} (h : RC A w) (c : RdC K A B) : RC B w := by
  obtain ⟨h1, h2, h3, h4, h5⟩ := h
  exact ⟨(c.2.2 96 19 (by omega) (by omega)).trans h1, (c.2.2 96 20 (by omega) (by omega)).trans h2, (c.2.2 96 21 (by omega) (by omega)).trans h3, (c.2.2 96 22 (by omega) (by omega)).trans h4, (c.2.2 96 23 (by omega) (by omega)).trans h5⟩
/-- the numbers of the item at a are so -/
def RN (t : Nat → Int) (L a : Nat) (w : WT) (c : Int) : Prop := nb c ≠ 0 ∧ (∀ i, i < nb c → 0 < rdn t L (ps t L a i)) ∧ (∀ i, i + 1 < nb c → sg t L (ps t L a i + rdn t L (ps t L a i)) = 44) ∧ okI w c (xs t L a)
/-- where the item at a ends, ahead of the sign behind it -/
def en (t : Nat → Int) (L a : Nat) (c : Int) : Nat := ps t L a (nb c - 1) + rdn t L (ps t L a (nb c - 1))
theorem itm_RN {t : Nat → Int} {L a : Nat} {w : WT} : itm t L a w ↔ RN t L a w (sg t L a) ∧ sg t L (en t L a (sg t L a)) = 59 := by
  unfold itm RN sy nOk en
  constructor
  · rintro ⟨h1, h2, h3⟩
    refine ⟨⟨h1, fun i hi => (h2 i hi).1, fun i hi => ?_, h3⟩, ?_⟩
    · have := (h2 i (by omega)).2
      rw [if_pos hi] at this
      exact this
    · have := (h2 (nb (sg t L a) - 1) (by omega)).2
      rw [if_neg (by omega)] at this
      exact this
  · rintro ⟨⟨h1, h2, h3, h4⟩, h5⟩
    refine ⟨h1, fun i hi => ⟨h2 i hi, ?_⟩, h4⟩
    by_cases q : i + 1 < nb (sg t L a)
    · rw [if_pos q]; exact h3 i q
    · rw [if_neg q, show i = nb (sg t L a) - 1 by omega]; exact h5
theorem nx_en {t : Nat → Int} {L a : Nat} (h : nb (sg t L a) ≠ 0) : nx t L a = en t L a (sg t L a) + 1 := by
  unfold nx en
  obtain ⟨n, hn⟩ : ∃ n, nb (sg t L a) = n + 1 := ⟨nb (sg t L a) - 1, by omega⟩
  rw [hn]
  rfl
theorem RN_b {t : Nat → Int} {L a : Nat} {w : WT} : RN t L a w 98 ↔ w 0 3 < 4 ∧ nIn t L (a + 1) 1 90 := by
  constructor
  · rintro ⟨_, h2, _, h4⟩
    obtain ⟨k1, k2, k3⟩ := okI_b.mp h4
    have k2 : 1 ≤ rdv t L (a + 1) := k2
    have k3 : rdv t L (a + 1) ≤ 90 := k3
    exact ⟨k1, h2 0 (by decide), by omega, by omega⟩
  · rintro ⟨h1, h2, h3, h4⟩
    refine ⟨by decide, fun i hi => ?_, fun i hi => ?_, okI_b.mpr ⟨h1, ?_, ?_⟩⟩
    · have hi : i < 1 := hi
      rw [show i = 0 by omega]; exact h2
    · have hi : i + 1 < 1 := hi
      omega
    · show 1 ≤ rdv t L (a + 1); omega
    · show rdv t L (a + 1) ≤ 90; omega
/-- items of two numbers -/
theorem RN_2 {t : Nat → Int} {L a : Nat} {w : WT} {c : Int} (hc : nb c = 2) : RN t L a w c ↔ (0 < rdn t L (a + 1) ∧ sg t L (a + 1 + rdn t L (a + 1)) = 44 ∧ 0 < rdn t L (nxp t L (a + 1))) ∧ okI w c (xs t L a) := by
  unfold RN
  rw [hc]
  constructor
  · rintro ⟨_, h2, h3, h4⟩
    exact ⟨⟨h2 0 (by decide), h3 0 (by decide), h2 1 (by decide)⟩, h4⟩
  · rintro ⟨⟨h1, h2, h3⟩, h4⟩
    refine ⟨by decide, fun i hi => ?_, fun i hi => ?_, h4⟩
    · rcases (show i = 0 ∨ i = 1 by omega) with rfl | rfl
      · exact h1
      · exact h3
    · rw [show i = 0 by omega]; exact h2
theorem xs_0 {t : Nat → Int} {L a : Nat} : xs t L a 0 = rdv t L (a + 1) := rfl
theorem xs_1 {t : Nat → Int} {L a : Nat} : xs t L a 1 = rdv t L (nxp t L (a + 1)) := rfl
theorem xs_2 {t : Nat → Int} {L a : Nat} : xs t L a 2 = rdv t L (nxp t L (nxp t L (a + 1))) := rfl
theorem xs_3 {t : Nat → Int} {L a : Nat} : xs t L a 3 = rdv t L (nxp t L (nxp t L (nxp t L (a + 1)))) := rfl
theorem RN_x {t : Nat → Int} {L a : Nat} {w : WT} : RN t L a w 120 ↔ ((0 < rdn t L (a + 1) ∧ sg t L (a + 1 + rdn t L (a + 1)) = 44 ∧ 0 < rdn t L (nxp t L (a + 1))) ∧ sg t L (nxp t L (a + 1) + rdn t L (nxp t L (a + 1))) = 44 ∧ 0 < rdn t L (nxp t L (nxp t L (a + 1))) ∧ sg t L (nxp t L (nxp t L (a + 1)) + rdn t L (nxp t L (nxp t L (a + 1)))) = 44 ∧ 0 < rdn t L (nxp t L (nxp t L (nxp t L (a + 1))))) ∧ okI w 120 (xs t L a) := by
  constructor
  · rintro ⟨_, h2, h3, h4⟩
    exact ⟨⟨⟨h2 0 (by decide), h3 0 (by decide), h2 1 (by decide)⟩, h3 1 (by decide), h2 2 (by decide), h3 2 (by decide), h2 3 (by decide)⟩, h4⟩
  · rintro ⟨⟨⟨h1, h2, h3⟩, h5, h6, h7, h8⟩, h4⟩
    refine ⟨by decide, fun i hi => ?_, fun i hi => ?_, h4⟩
    · have hi : i < 4 := hi
      rcases (show i = 0 ∨ i = 1 ∨ i = 2 ∨ i = 3 by omega) with rfl | rfl | rfl | rfl
      · exact h1
      · exact h3
      · exact h6
      · exact h8
    · have hi : i + 1 < 4 := hi
      rcases (show i = 0 ∨ i = 1 ∨ i = 2 by omega) with rfl | rfl | rfl
      · exact h2
      · exact h5
      · exact h7
section ITEMM
variable {G : GG} {M : MM} {d : Nat} {Q : Option AV → MM → Prop} {L a : Nat} {t : Nat → Int} {w : WT}
theorem ok9_readsChange (hd : 4 ≤ d) (hS : ShM M) (hT : TMv M L t) (hC : RC M w) (hW : WOk w) (ha : gI M 96 17 = ((a + 1 : Nat) : Int)) (haL : a + 1 ≤ L) (h6 : w 0 4 < 6)
    (k1 : RN t L a w 120 → ∀ M', RdC (fun _ => True) M M' → gI M' 96 17 = (en t L a 120 : Nat) → (∀ i, i < 4 → gI M' 106 i = (xs t L a i : Nat)) → Q (some (vI 1)) M')
    (k0 : ¬ RN t L a w 120 → ∀ M', RdC (fun _ => True) M M' → Q (some (vI 0)) M') : Ok G mX9_readsChange d 0 0 [vR 96] M Q := by
  obtain ⟨d, rfl⟩ : ∃ e, d = e + 1 := ⟨d - 1, by omega⟩
  refine Ok_of rfl (Nat.le_of_ble_eq_true rfl) rfl ?_
  have hR := RN_x (t := t) (L := L) (a := a) (w := w)
  have h10 := hW.1.1
  rw [okI_x, xs_0, xs_1, xs_2, xs_3] at hR
  refine bX9_readsChange_0 hS ?_
  rw [hC.1]
  refine ⟨⟨by omega, by omega⟩, ⟨by omega, by omega⟩, ok9_readsTwo (a := a + 1) (by omega) hS hT ha haL (fun h1 h2 h3 M1 c1 e1 v0 v1 => ⟨_, rfl, c1.sh hS, fun z => absurd z (by decide), fun _ => ?_⟩) (fun h M1 c1 => ⟨_, rfl, c1.sh hS, fun _ => k0 (fun z => h ?_) M1 (c1.mono fun _ _ => trivial), fun z => absurd rfl z⟩)⟩
  · have c1' : RdC (fun _ => True) M M1 := c1.mono fun _ _ => trivial
    have hr := rd_le (t := t) (L := L) (p := nxp t L (a + 1))
    have hs1 : nxp t L (a + 1) ≤ L := sg44 h2
    unfold nIn at h1 h3
    rw [v0, v1]
    refine ⟨fun h => k0 (fun z => (hR.mp z).2.2.1.2.2 (by omega)) M1 c1', fun h4 => ?_⟩
    refine ok9_readsComma (K := fun _ => True) (by omega) (c1.sh hS) (c1.tm hT) e1 (by omega) (fun h5 M2 c2 g2 e2 => ⟨_, rfl, (c1'.tr c2).sh hS, fun z => absurd z (by decide), fun _ => ?_⟩) (fun h5 M2 c2 => ⟨_, rfl, (c1'.tr c2).sh hS, fun _ => k0 (fun z => h5 (hR.mp z).1.2.1) M2 (c1'.tr c2), fun z => absurd rfl z⟩)
    have c12 := c1'.tr c2
    have hr2 := rd_le (t := t) (L := L) (p := nxp t L (nxp t L (a + 1)))
    have hs2 : nxp t L (nxp t L (a + 1)) ≤ L := sg44 h5
    refine ok9_reads (k := 2) (a := nxp t L (nxp t L (a + 1))) (by omega) (c12.sh hS) (c12.tm hT) e2 hs2 (by decide) (fun h7 M3 c3 e3 v3 => ⟨_, rfl, (c12.sh hS).of c3.2.1, fun z => absurd z (by decide), fun _ => ?_⟩) (fun h7 M3 c3 => ⟨_, rfl, (c12.sh hS).of c3.2.1, fun _ => k0 (fun z => h7 ?_) M3 (c12.tr (c3.mono fun _ _ => trivial)), fun z => absurd rfl z⟩)
    · have c13 : RdC (fun _ => True) M M3 := c12.tr (c3.mono fun _ _ => trivial)
      unfold nIn at h7
      refine ok9_readsComma (K := fun _ => True) (by omega) (c13.sh hS) (c13.tm hT) e3 (by omega) (fun h8 M4 c4 g4 e4 => ⟨_, rfl, (c13.tr c4).sh hS, fun z => absurd z (by decide), fun _ => ?_⟩) (fun h8 M4 c4 => ⟨_, rfl, (c13.tr c4).sh hS, fun _ => k0 (fun z => h8 (hR.mp z).1.2.2.2.1) M4 (c13.tr c4), fun z => absurd rfl z⟩)
      have c14 := c13.tr c4
      refine ok9_reads (k := 3) (a := nxp t L (nxp t L (nxp t L (a + 1)))) (by omega) (c14.sh hS) (c14.tm hT) e4 (sg44 h8) (by decide) (fun h9 M5 c5 e5 v5 => ⟨_, rfl, (c14.sh hS).of c5.2.1, fun z => absurd z (by decide), fun _ => k1 ?_ M5 (c14.tr (c5.mono fun _ _ => trivial)) e5 fun i hi => ?_⟩) (fun h9 M5 c5 => ⟨_, rfl, (c14.sh hS).of c5.2.1, fun _ => k0 (fun z => h9 ?_) M5 (c14.tr (c5.mono fun _ _ => trivial)), fun z => absurd rfl z⟩)
      · unfold nIn at h9
        exact hR.mpr ⟨⟨⟨h1.1, h2, h3.1⟩, h5, h7.1, h8, h9.1⟩, h6, ⟨by omega, by omega, by omega⟩, ⟨by omega, by omega⟩, by omega, by omega⟩
      · have o5 : ∀ j, j ≠ 3 → gI M5 106 j = gI M3 106 j := fun j hj => (c5.2.2 106 j (by omega) (by omega)).trans (g4 j)
        have o3 : ∀ j, j ≠ 2 → gI M3 106 j = gI M1 106 j := fun j hj => (c3.2.2 106 j (by omega) (by omega)).trans (g2 j)
        rcases (show i = 0 ∨ i = 1 ∨ i = 2 ∨ i = 3 by omega) with rfl | rfl | rfl | rfl
        · rw [o5 0 (by decide), o3 0 (by decide), v0, xs_0]
        · rw [o5 1 (by decide), o3 1 (by decide), v1, xs_1]
        · rw [o5 2 (by decide), v3, xs_2]
        · rw [v5, xs_3]
      · have y := hR.mp z
        exact ⟨y.1.2.2.2.2, by omega, by omega⟩
    · have y := hR.mp z
      exact ⟨y.1.2.2.1, by omega, by omega⟩
  · have y := hR.mp z
    unfold nIn
    exact ⟨⟨y.1.1.1, by omega, by omega⟩, y.1.1.2.1, y.1.1.2.2, by omega, by omega⟩
theorem ok9_readsNumbers {c : Int} (hd : 5 ≤ d) (hS : ShM M) (hT : TMv M L t) (hC : RC M w) (hW : WOk w) (ha : gI M 96 17 = ((a + 1 : Nat) : Int)) (haL : a + 1 ≤ L)
    (k1 : RN t L a w c → ∀ M', RdC (fun _ => True) M M' → gI M' 96 17 = (en t L a c : Nat) → (∀ i, i < nb c → gI M' 106 i = (xs t L a i : Nat)) → Q (some (vI 1)) M')
    (k0 : ¬ RN t L a w c → ∀ M', RdC (fun _ => True) M M' → Q (some (vI 0)) M') : Ok G mX9_readsNumbers d 0 0 [vR 96, vI c] M Q := by
  obtain ⟨d, rfl⟩ : ∃ e, d = e + 1 := ⟨d - 1, by omega⟩
  refine Ok_of rfl (Nat.le_of_ble_eq_true rfl) rfl ?_
  obtain ⟨C0, C1, C2, C3, C4⟩ := hC
  have h10 := hW.1.1
  have two : ∀ (c : Int), nb c = 2 → ∀ M1, gI M1 106 0 = (rdv t L (a + 1) : Nat) → gI M1 106 1 = (rdv t L (nxp t L (a + 1)) : Nat) → ∀ i, i < nb c → gI M1 106 i = (xs t L a i : Nat) := fun c hc M1 v0 v1 i hi => by
    rcases (show i = 0 ∨ i = 1 by omega) with rfl | rfl
    · rw [v0, xs_0]
    · rw [v1, xs_1]
  refine bX9_readsNumbers_0 _ hS ⟨fun h => ?_, fun h => ?_, fun h => ?_, fun h => ?_, fun h => ?_, fun h => k0 (fun z => z.1 (nb_0 h)) M RdC.rf⟩
  · subst h
    rw [C3]
    have hR := RN_b (t := t) (L := L) (a := a) (w := w)
    refine ⟨fun h => k0 (fun z => by have := (hR.mp z).1; omega) M RdC.rf, fun h => ok9_reads (k := 0) (by omega) hS hT ha haL (by decide) (fun h1 M1 c1 e1 v1 => ⟨_, rfl, c1.sh hS, fun z => absurd z (by decide), fun _ => k1 (hR.mpr ⟨by omega, h1⟩) M1 (c1.mono fun _ _ => trivial) e1 fun i hi => ?_⟩) (fun h1 M1 c1 => ⟨_, rfl, c1.sh hS, fun _ => k0 (fun z => h1 (hR.mp z).2) M1 (c1.mono fun _ _ => trivial), fun z => absurd rfl z⟩)⟩
    have hi : i < 1 := hi
    rw [show i = 0 by omega, v1, xs_0]
  · subst h
    rw [C2, C0]
    have hR := RN_2 (t := t) (L := L) (a := a) (w := w) (c := 112) rfl
    rw [okI_p, xs_0, xs_1] at hR
    refine ⟨fun h => k0 (fun z => by have := (hR.mp z).2.1; omega) M RdC.rf, fun h => ⟨⟨by omega, by omega⟩, ok9_readsTwo (a := a + 1) (by omega) hS hT ha haL (fun h1 h2 h3 M1 c1 e1 v0 v1 => ⟨_, rfl, c1.sh hS, fun z => absurd z (by decide), fun _ => k1 (hR.mpr ?_) M1 (c1.mono fun _ _ => trivial) e1 (two 112 rfl M1 v0 v1)⟩) (fun h1 M1 c1 => ⟨_, rfl, c1.sh hS, fun _ => k0 (fun z => h1 ?_) M1 (c1.mono fun _ _ => trivial), fun z => absurd rfl z⟩)⟩⟩
    · unfold nIn at h1 h3
      exact ⟨⟨h1.1, h2, h3.1⟩, by omega, by omega, by omega, by omega⟩
    · have y := hR.mp z
      unfold nIn
      exact ⟨⟨y.1.1, by omega, by omega⟩, y.1.2.1, y.1.2.2, by omega, by omega⟩
  · subst h
    rw [C0]
    have hR := RN_2 (t := t) (L := L) (a := a) (w := w) (c := 116) rfl
    rw [okI_t, xs_0, xs_1] at hR
    refine ⟨fun h => k0 (fun z => by have := (hR.mp z).2.1; omega) M RdC.rf, fun h => ok9_readsTwo (a := a + 1) (by omega) hS hT ha haL (fun h1 h2 h3 M1 c1 e1 v0 v1 => ⟨_, rfl, c1.sh hS, fun z => absurd z (by decide), fun _ => k1 (hR.mpr ?_) M1 (c1.mono fun _ _ => trivial) e1 (two 116 rfl M1 v0 v1)⟩) (fun h1 M1 c1 => ⟨_, rfl, c1.sh hS, fun _ => k0 (fun z => h1 ?_) M1 (c1.mono fun _ _ => trivial), fun z => absurd rfl z⟩)⟩
    · unfold nIn at h1 h3
      exact ⟨⟨h1.1, h2, h3.1⟩, by omega, by omega, by omega⟩
    · have y := hR.mp z
      unfold nIn
      exact ⟨⟨y.1.1, by omega, by omega⟩, y.1.2.1, y.1.2.2, by omega, by omega⟩
  · subst h
    rw [C4]
    refine ⟨fun h => k0 (fun z => by have := (okI_x.mp z.2.2.2).1; omega) M RdC.rf, fun h => ok9_readsChange (w := w) (by omega) hS hT ⟨C0, C1, C2, C3, C4⟩ hW ha haL (by omega) (fun h1 M1 c1 e1 v1 => ⟨_, rfl, c1.sh hS, fun z => absurd z (by decide), fun _ => k1 h1 M1 c1 e1 v1⟩) (fun h1 M1 c1 => ⟨_, rfl, c1.sh hS, fun _ => k0 h1 M1 c1, fun z => absurd rfl z⟩)⟩
  · subst h
    rw [C1, C0]
    have hR := RN_2 (t := t) (L := L) (a := a) (w := w) (c := 121) rfl
    rw [okI_y, xs_0, xs_1] at hR
    refine ⟨fun h => k0 (fun z => by have := (hR.mp z).2.1; omega) M RdC.rf, fun h => ⟨⟨by omega, by omega⟩, ⟨by omega, by omega⟩, ok9_readsTwo (a := a + 1) (by omega) hS hT ha haL (fun h1 h2 h3 M1 c1 e1 v0 v1 => ⟨_, rfl, c1.sh hS, fun z => absurd z (by decide), fun _ => ?_⟩) (fun h1 M1 c1 => ⟨_, rfl, c1.sh hS, fun _ => k0 (fun z => h1 ?_) M1 (c1.mono fun _ _ => trivial), fun z => absurd rfl z⟩)⟩⟩
    · unfold nIn at h1 h3
      rw [v0, v1]
      refine ⟨fun e => k0 (fun z => ?_) M1 (c1.mono fun _ _ => trivial), fun e => k1 (hR.mpr ⟨⟨h1.1, h2, h3.1⟩, by omega, by omega, by omega, by omega⟩) M1 (c1.mono fun _ _ => trivial) e1 (two 121 rfl M1 v0 v1)⟩
      have y := (hR.mp z).2.2.2.2
      omega
    · have y := hR.mp z
      unfold nIn
      exact ⟨⟨y.1.1, by omega, by omega⟩, y.1.2.1, y.1.2.2, by omega, by omega⟩
end ITEMM
