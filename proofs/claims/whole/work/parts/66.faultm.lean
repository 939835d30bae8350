/-! ===== the reference: an item, the first fault ===== -/
def b01 (c k : Int) : Nat := if c = k then 1 else 0
theorem adI_c {w : WT} {c : Int} {x : Nat → Nat} (h : nb c ≠ 0) : adI w c x 0 0 = w 0 0 + b01 c 116 ∧ adI w c x 0 1 = w 0 1 + b01 c 121 ∧ adI w c x 0 2 = w 0 2 + b01 c 112 ∧ adI w c x 0 3 = w 0 3 + b01 c 98 ∧ adI w c x 0 4 = w 0 4 + b01 c 120 := by
  rcases nb_c h with rfl | rfl | rfl | rfl | rfl <;> exact ⟨rfl, rfl, rfl, rfl, rfl⟩
section FAULTM
variable {G : GG} {M : MM} {d : Nat} {Q : Option AV → MM → Prop} {L a : Nat} {t : Nat → Int} {w : WT}
theorem ok9_readsItem (hd : 6 ≤ d) (hS : ShM M) (hT : TMv M L t) (hC : RC M w) (hW : WOk w) (ha : gI M 96 17 = (a : Nat)) (haL : a < L)
    (k1 : itm t L a w → ∀ M', ChT M M' → RC M' (nw t L a w) → gI M' 96 17 = (nx t L a : Nat) → (∀ i, i < nb (sg t L a) → gI M' 106 i = (xs t L a i : Nat)) → Q (some (vI (sg t L a))) M')
    (k0 : ¬ itm t L a w → ∀ M', ChT M M' → Q (some (vI (-4))) M') : Ok G mX9_readsItem d 0 0 [vR 96] M Q := by
  obtain ⟨d, rfl⟩ : ∃ e, d = e + 1 := ⟨d - 1, by omega⟩
  refine Ok_of rfl (Nat.le_of_ble_eq_true rfl) rfl ?_
  have hL := hT.2.1
  have hI := itm_RN (t := t) (L := L) (a := a) (w := w)
  have eS : gI M 98 a = sg t L a := by rw [hT.2.2 a haL, sg_lt haL]
  refine bX9_readsItem_0 hS ?_
  rw [ha, Int.toNat_natCast, eS]
  refine ⟨by omega, ⟨by omega, by omega⟩, ?_⟩
  rintro _ rfl
  have c0 : RdC (fun _ => True) M (stI M 96 17 ((a : Int) + 1)) := RdC.rf.at
  refine ok9_readsNumbers (w := w) (a := a) (by omega) (c0.sh hS) (c0.tm hT) (hC.rd c0) hW (by rw [gI_same]; omega) (by omega) (fun hR M3 c3 e3 v3 => ⟨_, rfl, (c0.tr c3).sh hS, fun z => absurd z (by decide), fun _ => ?_⟩) (fun hR M3 c3 => ⟨_, rfl, (c0.tr c3).sh hS, fun _ => k0 (fun z => hR (hI.mp z).1) M3 (ChT.rd (c0.tr c3)), fun z => absurd rfl z⟩)
  have c03 := c0.tr c3
  have hnb := hR.1
  refine ok9_isThere (a := en t L a (sg t L a)) (c03.sh hS) (c03.tm hT) e3 (by decide) (fun h59 => ⟨_, rfl, c03.sh hS, fun _ => ?_, fun z => absurd z (by decide)⟩) (fun h59 => ⟨_, rfl, c03.sh hS, fun z => absurd rfl z, fun _ => k0 (fun z => h59 (hI.mp z).2) M3 (ChT.rd c03)⟩)
  have hit : itm t L a w := hI.mpr ⟨hR, h59⟩
  have hnx := nx_le hit
  have hne := nx_en hnb
  rw [e3]
  refine ⟨⟨by omega, by omega⟩, ?_⟩
  rintro _ rfl
  have c9 : RdC (fun _ => True) M (stI M3 96 17 ((en t L a (sg t L a) : Nat) + 1 : Int)) := c03.at
  have hC9 := hC.rd c9
  have e9 : gI (stI M3 96 17 ((en t L a (sg t L a) : Nat) + 1 : Int)) 96 17 = (nx t L a : Nat) := by rw [gI_same, hne]; rfl
  have v9 : ∀ i, i < nb (sg t L a) → gI (stI M3 96 17 ((en t L a (sg t L a) : Nat) + 1 : Int)) 106 i = (xs t L a i : Nat) := fun i hi => (gI_ne _ _ (by omega)).trans (v3 i hi)
  generalize stI M3 96 17 ((en t L a (sg t L a) : Nat) + 1 : Int) = A at *
  have cA := ChT.rd c9
  have k1 := k1 hit
  obtain ⟨C0, C1, C2, C3, C4⟩ := hC9
  obtain ⟨a0, a1, a2, a3, a4⟩ : nw t L a w 0 0 = w 0 0 + b01 (sg t L a) 116 ∧ nw t L a w 0 1 = w 0 1 + b01 (sg t L a) 121 ∧ nw t L a w 0 2 = w 0 2 + b01 (sg t L a) 112 ∧ nw t L a w 0 3 = w 0 3 + b01 (sg t L a) 98 ∧ nw t L a w 0 4 = w 0 4 + b01 (sg t L a) 120 := adI_c hnb
  have hb := hW.1
  have hb1 : ∀ k, b01 (sg t L a) k ≤ 1 := fun k => by unfold b01; split <;> omega
  have bp : ∀ k, sg t L a = k → b01 (sg t L a) k = 1 := fun k h => if_pos h
  have bn : ∀ k, sg t L a ≠ k → b01 (sg t L a) k = 0 := fun k h => if_neg h
  generalize sg t L a = c at *
  -- the five counts
  have s1 : ∀ v : Int, v = (b01 c 116 : Nat) → Wp G mX9_readsItem (d + 1) 0 0 66 [some (vR 96), some (vI c)] [vI v, vI (gI A 96 19), vR 96] A 0 0 Q := by
    rintro _ rfl
    have := hb1 116
    refine bX9_readsItem_66 _ _ _ (cA.sh hS) ?_
    rw [C0]
    refine ⟨⟨by omega, by omega⟩, ?_⟩
    rintro _ rfl
    generalize hB : stI A 96 19 ((w 0 0 : Nat) + (b01 c 116 : Nat) : Int) = B
    have oB : ∀ q j, ¬ (q = 96 ∧ j = 19) → gI B q j = gI A q j := fun q j h => by rw [← hB]; exact gI_ne _ _ h
    have nB : gI B 96 19 = ((w 0 0 : Nat) + (b01 c 116 : Nat) : Int) := by rw [← hB]; exact gI_same _ _ _ _
    have cB : ChT M B := by rw [← hB]; exact cA.st (by omega)
    have s2 : ∀ v : Int, v = (b01 c 121 : Nat) → Wp G mX9_readsItem (d + 1) 0 0 86 [some (vR 96), some (vI c)] [vI v, vI (gI B 96 20), vR 96] B 0 0 Q := by
      rintro _ rfl
      have := hb1 121
      refine bX9_readsItem_86 _ _ _ (cB.sh hS) ?_
      rw [oB 96 20 (by omega), C1]
      refine ⟨⟨by omega, by omega⟩, ?_⟩
      rintro _ rfl
      generalize hD : stI B 96 20 ((w 0 1 : Nat) + (b01 c 121 : Nat) : Int) = D
      have oD : ∀ q j, ¬ (q = 96 ∧ j = 20) → gI D q j = gI B q j := fun q j h => by rw [← hD]; exact gI_ne _ _ h
      have nD : gI D 96 20 = ((w 0 1 : Nat) + (b01 c 121 : Nat) : Int) := by rw [← hD]; exact gI_same _ _ _ _
      have cD : ChT M D := by rw [← hD]; exact cB.st (by omega)
      have s3 : ∀ v : Int, v = (b01 c 112 : Nat) → Wp G mX9_readsItem (d + 1) 0 0 106 [some (vR 96), some (vI c)] [vI v, vI (gI D 96 21), vR 96] D 0 0 Q := by
        rintro _ rfl
        have := hb1 112
        refine bX9_readsItem_106 _ _ _ (cD.sh hS) ?_
        rw [oD 96 21 (by omega), oB 96 21 (by omega), C2]
        refine ⟨⟨by omega, by omega⟩, ?_⟩
        rintro _ rfl
        generalize hE : stI D 96 21 ((w 0 2 : Nat) + (b01 c 112 : Nat) : Int) = E
        have oE : ∀ q j, ¬ (q = 96 ∧ j = 21) → gI E q j = gI D q j := fun q j h => by rw [← hE]; exact gI_ne _ _ h
        have nE : gI E 96 21 = ((w 0 2 : Nat) + (b01 c 112 : Nat) : Int) := by rw [← hE]; exact gI_same _ _ _ _
        have cE : ChT M E := by rw [← hE]; exact cD.st (by omega)
        have s4 : ∀ v : Int, v = (b01 c 98 : Nat) → Wp G mX9_readsItem (d + 1) 0 0 126 [some (vR 96), some (vI c)] [vI v, vI (gI E 96 22), vR 96] E 0 0 Q := by
          rintro _ rfl
          have := hb1 98
          refine bX9_readsItem_126 _ _ _ (cE.sh hS) ?_
          rw [oE 96 22 (by omega), oD 96 22 (by omega), oB 96 22 (by omega), C3]
          refine ⟨⟨by omega, by omega⟩, ?_⟩
          rintro _ rfl
          generalize hF : stI E 96 22 ((w 0 3 : Nat) + (b01 c 98 : Nat) : Int) = F
          have oF : ∀ q j, ¬ (q = 96 ∧ j = 22) → gI F q j = gI E q j := fun q j h => by rw [← hF]; exact gI_ne _ _ h
          have nF : gI F 96 22 = ((w 0 3 : Nat) + (b01 c 98 : Nat) : Int) := by rw [← hF]; exact gI_same _ _ _ _
          have cF : ChT M F := by rw [← hF]; exact cE.st (by omega)
          have s5 : ∀ v : Int, v = (b01 c 120 : Nat) → Wp G mX9_readsItem (d + 1) 0 0 146 [none, some (vI c)] [vI v, vI (gI F 96 23), vR 96] F 0 0 Q := by
            rintro _ rfl
            have := hb1 120
            refine bX9_readsItem_146 _ _ _ (cF.sh hS) ?_
            rw [oF 96 23 (by omega), oE 96 23 (by omega), oD 96 23 (by omega), oB 96 23 (by omega), C4]
            refine ⟨⟨by omega, by omega⟩, ?_⟩
            rintro _ rfl
            generalize hH : stI F 96 23 ((w 0 4 : Nat) + (b01 c 120 : Nat) : Int) = H
            have oH : ∀ q j, ¬ (q = 96 ∧ j = 23) → gI H q j = gI F q j := fun q j h => by rw [← hH]; exact gI_ne _ _ h
            have nH : gI H 96 23 = ((w 0 4 : Nat) + (b01 c 120 : Nat) : Int) := by rw [← hH]; exact gI_same _ _ _ _
            have cH : ChT M H := by rw [← hH]; exact cF.st (by omega)
            have all : ∀ q j, ¬ (q = 96 ∧ 19 ≤ j) → gI H q j = gI A q j := fun q j h => by rw [oH q j (by omega), oF q j (by omega), oE q j (by omega), oD q j (by omega), oB q j (by omega)]
            refine k1 H cH ⟨?_, ?_, ?_, ?_, ?_⟩ ((all 96 17 (by omega)).trans e9) (fun i hi => (all 106 i (by omega)).trans (v9 i hi))
            · rw [oH 96 19 (by omega), oF 96 19 (by omega), oE 96 19 (by omega), oD 96 19 (by omega), nB, a0]; rfl
            · rw [oH 96 20 (by omega), oF 96 20 (by omega), oE 96 20 (by omega), nD, a1]; rfl
            · rw [oH 96 21 (by omega), oF 96 21 (by omega), nE, a2]; rfl
            · rw [oH 96 22 (by omega), nF, a3]; rfl
            · rw [nH, a4]; rfl
          exact ⟨fun h => s5 0 (by rw [bn 120 h]; rfl), fun h => s5 1 (by rw [bp 120 h]; rfl)⟩
        exact ⟨fun h => s4 0 (by rw [bn 98 h]; rfl), fun h => s4 1 (by rw [bp 98 h]; rfl)⟩
      exact ⟨fun h => s3 0 (by rw [bn 112 h]; rfl), fun h => s3 1 (by rw [bp 112 h]; rfl)⟩
    exact ⟨fun h => s2 0 (by rw [bn 121 h]; rfl), fun h => s2 1 (by rw [bp 121 h]; rfl)⟩
  exact ⟨fun h => s1 0 (by rw [bn 116 h]; rfl), fun h => s1 1 (by rw [bp 116 h]; rfl)⟩
theorem ok9_beginToRead (hS : ShM M) (kk : ∀ M', ChT M M' → RC M' w00 → gI M' 96 17 = 0 → Q none M') : Ok G mX9_beginToRead d 0 0 [vR 96] M Q := by
  refine Ok_of rfl (Nat.le_of_ble_eq_true rfl) rfl ?_
  refine bX9_beginToRead_0 hS ?_
  rintro _ rfl _ rfl _ rfl _ rfl _ rfl _ rfl
  refine kk _ ((((((ChT.rf.st (by omega)).st (by omega)).st (by omega)).st (by omega)).st (by omega)).st (by omega)) ⟨?_, ?_, ?_, ?_, ?_⟩ ?_ <;> simp [gI_st, w00]
theorem ok9_fault (hd : 7 ≤ d) (hS : ShM M) (hT : TMv M L t)
    (kn : ∀ M', ChT M M' → (rdA t L).1 = none → RC M' (rdA t L).2 → Q (some (vI (-4))) M')
    (kf : ∀ M' (b : Nat), ChT M M' → (rdA t L).1 = some b → Q (some (vI b)) M') : Ok G mX9_fault d 0 0 [vR 96] M Q := by
  obtain ⟨d, rfl⟩ : ∃ e, d = e + 1 := ⟨d - 1, by omega⟩
  refine Ok_of rfl (Nat.le_of_ble_eq_true rfl) rfl ?_
  have hL := hT.2.1
  refine bX9_fault_0 hS (ok9_beginToRead hS fun M1 c1 hC1 e1 => ⟨rfl, c1.sh hS, ?_⟩)
  have key : ∀ (f : Nat) (M' : MM) (a : Nat) (w : WT), L ≤ a + f → ChT M M' → RC M' w → WOk w → gI M' 96 17 = (a : Nat) → rdW t L f a w = rdA t L → Wp G mX9_fault (d + 1) 0 0 4 [some (vR 96), none] [] M' 0 0 Q := by
    intro f
    induction f with
    | zero =>
      intro M' a w hf c hC hW ha hr
      have hT' := c.tm hT
      refine bX9_fault_4 (c.sh hS) ?_
      rw [hT'.1, ha]
      refine ⟨fun _ => ?_, fun h => absurd (by omega) h⟩
      exact kn M' c (by rw [← hr]; rfl) (by rw [← hr]; exact hC)
    | succ f ih =>
      intro M' a w hf c hC hW ha hr
      have hT' := c.tm hT
      have hS' := c.sh hS
      refine bX9_fault_4 hS' ?_
      rw [hT'.1, ha]
      refine ⟨fun h => ?_, fun h => ?_⟩
      · rw [rdW_e (by omega)] at hr
        exact kn M' c (by rw [← hr]) (by rw [← hr]; exact hC)
      · refine ok9_readsItem (w := w) (by omega) hS' hT' hC hW ha (by omega) (fun hi M2 c2 hC2 e2 _ => ⟨_, rfl, c2.sh hS', fun _ => ih M2 _ _ (by have := nx_gt (t := t) (L := L) (a := a); omega) (c.tr c2) hC2 (hW.adI hi.2.2) e2 ?_, fun z => ?_⟩) (fun hi M2 c2 => ⟨_, rfl, c2.sh hS', fun z => absurd rfl z, fun _ => ?_⟩)
        · rw [rdW_y (by omega) hi] at hr
          exact hr
        · have := nb_c hi.1
          omega
        · rw [rdW_n (by omega) hi] at hr
          exact kf M2 a (c.tr c2) (by rw [← hr])
  exact key 200 M1 0 w00 (by omega) c1 hC1 w00_ok e1 rfl
theorem ok9_faultA (hd : 7 ≤ d) (hS : ShM M) (hT : TMv M L t) (kk : ∀ M', ChT M M' → Q (some (vI (aFault t L))) M') : Ok G mX9_fault d 0 0 [vR 96] M Q := by
  unfold aFault at kk
  refine ok9_fault hd hS hT (fun M' c e _ => ?_) (fun M' b c e => ?_)
  · have := kk M' c
    rw [e] at this
    exact this
  · have := kk M' c
    rw [e] at this
    exact this
theorem ok9_wipe (hS : ShM M) (hT : TMv M L t) (kk : TMv (stI M 96 4 0) 0 t → Q (some (vI (L : Nat))) (stI M 96 4 0)) : Ok G mX9_wipe d 0 0 [vR 96] M Q := by
  refine Ok_of rfl (Nat.le_of_ble_eq_true rfl) rfl ?_
  refine bX9_wipe_0 hS ?_
  rintro _ rfl
  rw [hT.1]
  exact kk ⟨gI_same _ _ _ _, Nat.zero_le _, fun i hi => absurd hi (Nat.not_lt_zero i)⟩
end FAULTM
