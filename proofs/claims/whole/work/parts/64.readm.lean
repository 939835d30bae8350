/-! ===== the reference reads: signs, numbers ===== -/
/-- only the place of the reading and the numbers told of which K holds are changed -/
def RdC (K : Nat → Prop) (M M' : MM) : Prop := M'.1 = M.1 ∧ M'.2.2 = M.2.2 ∧ ∀ q j, ¬ (q = 96 ∧ j = 17) → ¬ (q = 106 ∧ K j) → gI M' q j = gI M q j
theorem RdC.rf {K : Nat → Prop} {M : MM} : RdC K M M := ⟨rfl, rfl, fun _ _ _ _ => rfl⟩
theorem RdC.tr {K : Nat → Prop} {A B C : MM} (h1 : RdC K A B) (h2 : RdC K B C) : RdC K A C := ⟨h2.1.trans h1.1, h2.2.1.trans h1.2.1, fun q j a b => (h2.2.2 q j a b).trans (h1.2.2 q j a b)⟩
theorem RdC.mono {K K' : Nat → Prop} {A B : MM} (h : RdC K A B) (hk : ∀ j, K j → K' j) : RdC K' A B := ⟨h.1, h.2.1, fun q j a b => h.2.2 q j a fun z => b ⟨z.1, hk j z.2⟩⟩
theorem RdC.at {K : Nat → Prop} {A B : MM} {x : Int} (h : RdC K A B) : RdC K A (stI B 96 17 x) := ⟨h.1, h.2.1, fun q j a b => (gI_ne B x a).trans (h.2.2 q j a b)⟩
theorem RdC.to {K : Nat → Prop} {A B : MM} {k : Nat} {x : Int} (h : RdC K A B) (hk : K k) : RdC K A (stI B 106 k x) := ⟨h.1, h.2.1, fun q j a b => (gI_ne B x fun z => b ⟨z.1, by rw [z.2]; exact hk⟩).trans (h.2.2 q j a b)⟩
theorem RdC.sh {K : Nat → Prop} {A B : MM} (h : RdC K A B) (hS : ShM A) : ShM B := hS.of h.2.1
theorem RdC.tm {K : Nat → Prop} {A B : MM} {L : Nat} {t : Nat → Int} (h : RdC K A B) (hT : TMv A L t) : TMv B L t := ⟨(h.2.2 96 4 (by omega) (by omega)).trans hT.1, hT.2.1, fun i hi => (h.2.2 98 i (by omega) (by omega)).trans (hT.2.2 i hi)⟩
def nIn (t : Nat → Int) (L p : Nat) (lo hi : Int) : Prop := 0 < rdn t L p ∧ lo ≤ (rdv t L p : Nat) ∧ ((rdv t L p : Nat) : Int) ≤ hi
section READM
variable {G : GG} {M : MM} {d : Nat} {Q : Option AV → MM → Prop} {L a : Nat} {t : Nat → Int}
theorem ok9_isThere {c : Int} (hS : ShM M) (hT : TMv M L t) (ha : gI M 96 17 = (a : Nat)) (hc : 0 ≤ c) (k1 : sg t L a = c → Q (some (vI 1)) M) (k0 : sg t L a ≠ c → Q (some (vI 0)) M) : Ok G mX9_isThere d 0 0 [vR 96, vI c] M Q := by
  refine Ok_of rfl (Nat.le_of_ble_eq_true rfl) rfl ?_
  obtain ⟨t1, t2, t3⟩ := hT
  refine bX9_isThere_0 _ hS ?_
  rw [t1, ha]
  refine ⟨fun h => k0 ?_, fun h => ⟨by omega, ?_⟩⟩
  · rw [sg_ge (by omega)]; omega
  · have hl : a < L := by omega
    rw [Int.toNat_natCast, t3 a hl]
    rw [sg_lt hl] at k1 k0
    exact ⟨k0, k1⟩
theorem ok9_isFigure {x : Int} (hd : 1 ≤ d) (k1 : (48 ≤ x ∧ x ≤ 57) → Q (some (vI 1)) M) (k0 : ¬ (48 ≤ x ∧ x ≤ 57) → Q (some (vI 0)) M) : Ok G mX9_isFigure d 0 0 [vI x] M Q := by
  obtain ⟨d, rfl⟩ : ∃ e, d = e + 1 := ⟨d - 1, by omega⟩
  refine Ok_of rfl (Nat.le_of_ble_eq_true rfl) rfl ?_
  refine bX9_isFigure_0 _ (ok_in ⟨_, rfl, ?_⟩)
  by_cases h : 48 ≤ x ∧ x ≤ 57
  · rw [if_pos h]; exact ⟨Or.inr rfl, k1 h⟩
  · rw [if_neg h]; exact ⟨Or.inl rfl, k0 h⟩
theorem ok9_reads {k : Nat} {lo hi : Int} (hd : 2 ≤ d) (hS : ShM M) (hT : TMv M L t) (ha : gI M 96 17 = (a : Nat)) (haL : a ≤ L) (hk : k < 4)
    (k1 : nIn t L a lo hi → ∀ M', RdC (fun j => j = k) M M' → gI M' 96 17 = ((a + rdn t L a : Nat) : Int) → gI M' 106 k = (rdv t L a : Nat) → Q (some (vI 1)) M')
    (k0 : ¬ nIn t L a lo hi → ∀ M', RdC (fun j => j = k) M M' → Q (some (vI 0)) M') : Ok G mX9_reads d 0 0 [vR 96, vI k, vI lo, vI hi] M Q := by
  obtain ⟨d, rfl⟩ : ∃ e, d = e + 1 := ⟨d - 1, by omega⟩
  refine Ok_of rfl (Nat.le_of_ble_eq_true rfl) rfl ?_
  refine bX9_reads_0 _ _ _ hS ?_
  have hL := hT.2.1
  have fin : ∀ (M1 : MM) (v n : Nat), RdC (fun j => j = k) M M1 → gI M1 96 17 = ((a + n : Nat) : Int) → rdn t L a = n → rdv t L a = v → ∀ (v' n' : Int), v' = v → n' = n →
      ((0 : Int) ≤ (k : Int) ∧ ((k : Int) : Int) < 4) ∧ (∀ M3 : MM, M3 = stI M1 106 (k : Int).toNat v' → ((n' ≤ 0 → (Q (some (vI 0)) M3)) ∧ (¬ (n' ≤ 0) → (Ok G mX9_in d 0 0 [vL v', vL lo, vL hi] M3 (fun v M5 => ∃ r6 : Int, v = some (vI r6) ∧ ShM M5 ∧ ((r6 = 0 → (Q (some (vI 0)) M5)) ∧ (¬ (r6 = 0) → (Q (some (vI 1)) M5)))))))) := by
    rintro M1 v n c h17 hn hv _ _ rfl rfl
    refine ⟨by omega, ?_⟩
    rw [Int.toNat_natCast]
    rintro _ rfl
    have c2 : RdC (fun j => j = k) M (stI M1 106 k (v : Nat)) := c.to rfl
    unfold nIn at k1 k0
    rw [hn, hv] at k1 k0
    refine ⟨fun h => k0 (fun z => by omega) _ c2, fun h => ok_in ⟨_, rfl, c2.sh hS, ?_⟩⟩
    by_cases hin : lo ≤ (v : Int) ∧ (v : Int) ≤ hi
    · rw [if_pos hin]
      exact ⟨fun z => absurd z (by decide), fun _ => k1 ⟨by omega, hin⟩ _ c2 ((gI_ne _ _ (by omega)).trans h17) (gI_same _ _ _ _)⟩
    · rw [if_neg hin]
      exact ⟨fun _ => k0 (fun z => hin z.2) _ c2, fun z => absurd rfl z⟩
  have e17 : ∀ (M1 : MM), RdC (fun j => j = k) M M1 → ∀ i, i < L → gI M1 98 i = sg t L i := fun M1 c i hi => by rw [(c.tm hT).2.2 i hi, sg_lt hi]
  refine bX9_reads_6 _ _ _ _ _ hS ⟨fun h => absurd h (by decide), fun _ => ⟨fun h => ?_, fun h => ?_⟩⟩
  · rw [hT.1, ha] at h
    obtain ⟨r1, r2⟩ := rd_0 (t := t) (L := L) (p := a) (by rw [sg_ge (by omega)]; omega)
    exact fin M 0 0 RdC.rf (by rw [ha]; rfl) r1 r2 _ _ rfl rfl
  · rw [hT.1, ha] at h
    have hl : a < L := by omega
    rw [ha, Int.toNat_natCast, e17 M RdC.rf a hl]
    refine ⟨by omega, ok9_isFigure (by omega) (fun f1 => ⟨_, rfl, hS, fun z => absurd z (by decide), fun _ => ?_⟩) (fun f1 => ⟨_, rfl, hS, fun _ => ?_, fun z => absurd rfl z⟩)⟩
    · rw [ha, Int.toNat_natCast, e17 M RdC.rf a hl]
      refine ⟨⟨by decide, by decide⟩, by omega, ⟨by omega, by omega⟩, ⟨by omega, by omega⟩, ⟨by decide, by decide⟩, ⟨by omega, by omega⟩, ?_⟩
      rintro _ rfl
      have c1 : RdC (fun j => j = k) M (stI M 96 17 ((a : Int) + 1)) := RdC.rf.at
      have hS1 := c1.sh hS
      have hT1 := c1.tm hT
      have a1 : gI (stI M 96 17 ((a : Int) + 1)) 96 17 = ((a + 1 : Nat) : Int) := by rw [gI_same]; omega
      have ee : 10 * (0 : Int) + sg t L a - 48 = ((sg t L a - 48).toNat : Nat) := by omega
      refine bX9_reads_6 _ _ _ _ _ hS1 ⟨fun h => absurd h (by decide), fun _ => ⟨fun h2 => ?_, fun h2 => ?_⟩⟩
      · rw [hT1.1, a1] at h2
        obtain ⟨r1, r2⟩ := rd_1 f1 (by rw [sg_ge (by omega)]; omega)
        exact fin _ (rdv t L a) 1 c1 a1 r1 rfl _ _ (by omega) rfl
      · rw [hT1.1, a1] at h2
        have hl2 : a + 1 < L := by omega
        rw [a1, Int.toNat_natCast, e17 _ c1 (a + 1) hl2]
        refine ⟨by omega, ok9_isFigure (by omega) (fun f2 => ⟨_, rfl, hS1, fun z => absurd z (by decide), fun _ => ?_⟩) (fun f2 => ⟨_, rfl, hS1, fun _ => ?_, fun z => absurd rfl z⟩)⟩
        · rw [a1, Int.toNat_natCast, e17 _ c1 (a + 1) hl2]
          refine ⟨⟨by omega, by omega⟩, by omega, ⟨by omega, by omega⟩, ⟨by omega, by omega⟩, ⟨by decide, by decide⟩, ⟨by omega, by omega⟩, ?_⟩
          rintro _ rfl
          have c2 : RdC (fun j => j = k) M (stI (stI M 96 17 ((a : Int) + 1)) 96 17 (((a + 1 : Nat) : Int) + 1)) := c1.at
          obtain ⟨r1, r2⟩ := rd_2 f1 f2
          refine bX9_reads_6 _ _ _ _ _ (c2.sh hS) ⟨fun _ => ?_, fun h => absurd (by decide) h⟩
          exact fin _ (rdv t L a) 2 c2 (by rw [gI_same]; omega) r1 rfl _ _ (by omega) rfl
        · obtain ⟨r1, r2⟩ := rd_1 f1 f2
          exact fin _ (rdv t L a) 1 c1 a1 r1 rfl _ _ (by omega) rfl
    · obtain ⟨r1, r2⟩ := rd_0 f1
      exact fin M 0 0 RdC.rf (by rw [ha]; rfl) r1 r2 _ _ rfl rfl
theorem ok9_readsComma {K : Nat → Prop} (hd : 1 ≤ d) (hS : ShM M) (hT : TMv M L t) (ha : gI M 96 17 = (a : Nat)) (haL : a ≤ L)
    (k1 : sg t L a = 44 → ∀ M', RdC K M M' → (∀ j, gI M' 106 j = gI M 106 j) → gI M' 96 17 = ((a + 1 : Nat) : Int) → Q (some (vI 1)) M') (k0 : sg t L a ≠ 44 → ∀ M', RdC K M M' → Q (some (vI 0)) M') : Ok G mX9_readsComma d 0 0 [vR 96] M Q := by
  obtain ⟨d, rfl⟩ : ∃ e, d = e + 1 := ⟨d - 1, by omega⟩
  refine Ok_of rfl (Nat.le_of_ble_eq_true rfl) rfl ?_
  have hL := hT.2.1
  refine bX9_readsComma_0 hS (ok9_isThere hS hT ha (by decide) (fun h => ⟨_, rfl, hS, ?_⟩) (fun h => ⟨_, rfl, hS, ?_⟩))
  · rw [ha, if_neg (by decide)]
    refine ⟨⟨by omega, by omega⟩, ?_⟩
    rintro _ rfl
    exact ⟨Or.inr rfl, k1 h _ RdC.rf.at (fun j => gI_ne _ _ (by omega)) (by rw [gI_same]; omega)⟩
  · rw [ha, if_pos rfl]
    refine ⟨⟨by omega, by omega⟩, ?_⟩
    rintro _ rfl
    exact ⟨Or.inl rfl, k0 h _ RdC.rf.at⟩
/-- where the number behind the number at p stands -/
def nxp (t : Nat → Int) (L p : Nat) : Nat := p + rdn t L p + 1
theorem sg44 {t : Nat → Int} {L i : Nat} (h : sg t L i = 44) : i + 1 ≤ L := sg_in (t := t) (L := L) (i := i) (by omega)
theorem ok9_readsTwo {m lo hi : Int} (hd : 3 ≤ d) (hS : ShM M) (hT : TMv M L t) (ha : gI M 96 17 = (a : Nat)) (haL : a ≤ L)
    (k1 : nIn t L a 0 m → sg t L (a + rdn t L a) = 44 → nIn t L (nxp t L a) lo hi → ∀ M', RdC (fun j => j < 2) M M' → gI M' 96 17 = ((nxp t L a + rdn t L (nxp t L a) : Nat) : Int) → gI M' 106 0 = (rdv t L a : Nat) → gI M' 106 1 = (rdv t L (nxp t L a) : Nat) → Q (some (vI 1)) M')
    (k0 : ¬ (nIn t L a 0 m ∧ sg t L (a + rdn t L a) = 44 ∧ nIn t L (nxp t L a) lo hi) → ∀ M', RdC (fun j => j < 2) M M' → Q (some (vI 0)) M') : Ok G mX9_readsTwo d 0 0 [vR 96, vI m, vI lo, vI hi] M Q := by
  obtain ⟨d, rfl⟩ : ∃ e, d = e + 1 := ⟨d - 1, by omega⟩
  refine Ok_of rfl (Nat.le_of_ble_eq_true rfl) rfl ?_
  have hr := rd_le (t := t) (L := L) (p := a)
  refine bX9_readsTwo_0 _ _ _ hS (ok9_reads (k := 0) (by omega) hS hT ha haL (by decide) (fun h1 M1 c1 e1 v1 => ⟨_, rfl, c1.sh hS, fun z => absurd z (by decide), fun _ => ?_⟩) (fun h1 M1 c1 => ⟨_, rfl, c1.sh hS, fun _ => k0 (fun z => h1 z.1) M1 (c1.mono fun j hj => by omega), fun z => absurd rfl z⟩))
  have c1' : RdC (fun j => j < 2) M M1 := c1.mono fun j hj => by omega
  refine ok9_readsComma (K := fun j => j < 2) (by omega) (c1.sh hS) (c1.tm hT) e1 (by omega) (fun h2 M2 c2 g2 e2 => ⟨_, rfl, (c1'.tr c2).sh hS, fun z => absurd z (by decide), fun _ => ?_⟩) (fun h2 M2 c2 => ⟨_, rfl, (c1'.tr c2).sh hS, fun _ => k0 (fun z => h2 z.2.1) M2 (c1'.tr c2), fun z => absurd rfl z⟩)
  have c12 := c1'.tr c2
  refine ok9_reads (k := 1) (a := nxp t L a) (by omega) (c12.sh hS) (c12.tm hT) e2 (sg44 h2) (by decide) (fun h3 M3 c3 e3 v3 => ⟨_, rfl, (c12.sh hS).of c3.2.1, fun z => absurd z (by decide), fun _ => k1 h1 h2 h3 M3 (c12.tr (c3.mono fun j hj => by omega)) e3 ?_ v3⟩) (fun h3 M3 c3 => ⟨_, rfl, (c12.sh hS).of c3.2.1, fun _ => k0 (fun z => h3 z.2.2) M3 (c12.tr (c3.mono fun j hj => by omega)), fun z => absurd rfl z⟩)
  rw [c3.2.2 106 0 (by omega) (by omega), g2 0, v1]
end READM
