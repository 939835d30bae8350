/-! ===== blocks, by program: from a loop's head or an entry to the next heads, calls, ends ===== -/
theorem qbipush_13 : -128 ≤ ((13) : Int) ∧ ((13) : Int) < 128 := ⟨by decide, by decide⟩
theorem qbipush_26 : -128 ≤ ((26) : Int) ∧ ((26) : Int) < 128 := ⟨by decide, by decide⟩
theorem qbipush_52 : -128 ≤ ((52) : Int) ∧ ((52) : Int) < 128 := ⟨by decide, by decide⟩
theorem qbipush_91 : -128 ≤ ((91) : Int) ∧ ((91) : Int) < 128 := ⟨by decide, by decide⟩
theorem qbipush_98 : -128 ≤ ((98) : Int) ∧ ((98) : Int) < 128 := ⟨by decide, by decide⟩
theorem qbipush_112 : -128 ≤ ((112) : Int) ∧ ((112) : Int) < 128 := ⟨by decide, by decide⟩
theorem qbipush_116 : -128 ≤ ((116) : Int) ∧ ((116) : Int) < 128 := ⟨by decide, by decide⟩
theorem qbipush_120 : -128 ≤ ((120) : Int) ∧ ((120) : Int) < 128 := ⟨by decide, by decide⟩
theorem qbipush_121 : -128 ≤ ((121) : Int) ∧ ((121) : Int) < 128 := ⟨by decide, by decide⟩
set_option maxRecDepth 100000 in
theorem bX9_in_0 {G : GG} {d : Nat} {M : MM} {Q : Option AV → MM → Prop} (a0 : Int) (a2 : Int) (a4 : Int) (h :
(a0 < a2 →
(Q (some (vI 0)) M)) ∧
(¬ (a0 < a2) →
((a4 < a0 →
(Q (some (vI 0)) M)) ∧
(¬ (a4 < a0) →
(Q (some (vI 1)) M))))) :
  Wp G mX9_in d 0 0 0 [some (vL a0), none, some (vL a2), none, some (vL a4), none] [] M 0 0 Q := by
  refine wg_lload_n dX9_in_0 rfl ?_
  refine wg_lload_n dX9_in_1 rfl ?_
  refine wg_lcmp dX9_in_2 ?_
  refine wg_if_lt dX9_in_3 rfl (fun c1 => ?_) (fun c1 => ?_)
  · replace c1 := lcmp_lt.mp c1
    replace h := h.1 c1
    refine wg_iconst dX9_in_17 qiconst_0 ?_
    exact wp_zret rfl dX9_in_18 ⟨Nat.le_refl _, Nat.le_refl _⟩ (Or.inl rfl) h
  · replace c1 := (not_congr lcmp_lt).mp c1
    replace h := h.2 c1
    refine wg_lload_n dX9_in_6 rfl ?_
    refine wg_lload dX9_in_7 rfl ?_
    refine wg_lcmp dX9_in_9 ?_
    refine wg_if_gt dX9_in_10 rfl (fun c2 => ?_) (fun c2 => ?_)
    · replace c2 := lcmp_gt.mp c2
      replace h := h.1 c2
      refine wg_iconst dX9_in_17 qiconst_0 ?_
      exact wp_zret rfl dX9_in_18 ⟨Nat.le_refl _, Nat.le_refl _⟩ (Or.inl rfl) h
    · replace c2 := (not_congr lcmp_gt).mp c2
      replace h := h.2 c2
      refine wg_iconst dX9_in_13 qiconst_1 ?_
      refine wg_goto dX9_in_14 rfl ?_
      exact wp_zret rfl dX9_in_18 ⟨Nat.le_refl _, Nat.le_refl _⟩ (Or.inr rfl) h
set_option maxRecDepth 100000 in
theorem bX9_has_0 {G : GG} {d : Nat} {M : MM} {Q : Option AV → MM → Prop} (a0 : Int) (a1 : Int) (h :
((iandv (ishrv a0 a1) 1) ≠ 1 →
(Q (some (vI 0)) M)) ∧
((iandv (ishrv a0 a1) 1) = 1 →
(Q (some (vI 1)) M))) :
  Wp G mX9_has d 0 0 0 [some (vI a0), some (vI a1)] [] M 0 0 Q := by
  refine wg_iload_n dX9_has_0 rfl ?_
  refine wg_iload_n dX9_has_1 rfl ?_
  refine wg_ishr dX9_has_2 ?_
  refine wg_iconst dX9_has_3 qiconst_1 ?_
  refine wg_iand dX9_has_4 ?_
  refine wg_iconst dX9_has_5 qiconst_1 ?_
  refine wg_icmp_ne dX9_has_6 rfl (fun c1 => ?_) (fun c1 => ?_)
  · replace h := h.1 c1
    refine wg_iconst dX9_has_13 qiconst_0 ?_
    exact wp_zret rfl dX9_has_14 ⟨Nat.le_refl _, Nat.le_refl _⟩ (Or.inl rfl) h
  · replace h := h.2 c1
    refine wg_iconst dX9_has_9 qiconst_1 ?_
    refine wg_goto dX9_has_10 rfl ?_
    exact wp_zret rfl dX9_has_14 ⟨Nat.le_refl _, Nat.le_refl _⟩ (Or.inr rfl) h
set_option maxRecDepth 100000 in
theorem bX9_bits_0 {G : GG} {d : Nat} {M : MM} {Q : Option AV → MM → Prop} (a0 : Int) (h :
Wp G mX9_bits d 0 0 4 [some (vI a0), some (vI 0), some (vI 0)] [] M 0 0 Q) :
  Wp G mX9_bits d 0 0 0 [some (vI a0), none, none] [] M 0 0 Q := by
  refine wg_iconst dX9_bits_0 qiconst_0 ?_
  refine wg_istore_n (L' := [some (vI a0), some (vI 0), none]) dX9_bits_1 (Nat.le_of_ble_eq_true rfl) rfl ?_
  refine wg_iconst dX9_bits_2 qiconst_0 ?_
  refine wg_istore_n (L' := [some (vI a0), some (vI 0), some (vI 0)]) dX9_bits_3 (Nat.le_of_ble_eq_true rfl) rfl ?_
  exact h
set_option maxRecDepth 100000 in
theorem bX9_bits_4 {G : GG} {d : Nat} {M : MM} {Q : Option AV → MM → Prop} (a0 : Int) (s1 : Int) (s2 : Int) (h :
(10 ≤ s2 →
(Q (some (vI s1)) M)) ∧
(¬ (10 ≤ s2) →
(R32 (s1 + (iandv (ishrv a0 s2) 1)) ∧
(R32 (s2 + 1) ∧
(Wp G mX9_bits d 0 0 4 [some (vI a0), some (vI (s1 + (iandv (ishrv a0 s2) 1))), some (vI (s2 + 1))] [] M 0 0 Q))))) :
  Wp G mX9_bits d 0 0 4 [some (vI a0), some (vI s1), some (vI s2)] [] M 0 0 Q := by
  refine wg_iload_n dX9_bits_4 rfl ?_
  refine wg_bipush dX9_bits_5 qbipush_10 ?_
  refine wg_icmp_ge dX9_bits_7 rfl (fun c1 => ?_) (fun c1 => ?_)
  · replace h := h.1 c1
    refine wg_iload_n dX9_bits_24 rfl ?_
    exact wp_iret rfl dX9_bits_25 ⟨Nat.le_refl _, Nat.le_refl _⟩ h
  · replace h := h.2 c1
    refine wg_iload_n dX9_bits_10 rfl ?_
    refine wg_iload_n dX9_bits_11 rfl ?_
    refine wg_iload_n dX9_bits_12 rfl ?_
    refine wg_ishr dX9_bits_13 ?_
    refine wg_iconst dX9_bits_14 qiconst_1 ?_
    refine wg_iand dX9_bits_15 ?_
    obtain ⟨o, h⟩ := h
    refine wg_iadd dX9_bits_16 o ?_
    refine wg_istore_n (L' := [some (vI a0), some (vI (s1 + (iandv (ishrv a0 s2) 1))), some (vI s2)]) dX9_bits_17 (Nat.le_of_ble_eq_true rfl) rfl ?_
    obtain ⟨o, h⟩ := h
    refine wg_iinc (L' := [some (vI a0), some (vI (s1 + (iandv (ishrv a0 s2) 1))), some (vI (s2 + 1))]) dX9_bits_18 (Nat.le_of_ble_eq_true rfl) rfl rfl o ?_
    refine wg_goto dX9_bits_21 rfl ?_
    exact h
set_option maxRecDepth 100000 in
theorem bX9_addThing_0 {G : GG} {d : Nat} {M : MM} {Q : Option AV → MM → Prop} (a1 : Int) (a2 : Int) (hS : ShM M) (h :
((0 : Int) ≤ gI M 96 5 ∧ (gI M 96 5 : Int) < 10) ∧
(∀ M2 : MM, M2 = stI M 99 (gI M 96 5).toNat a1 →
(((0 : Int) ≤ gI M2 96 5 ∧ (gI M2 96 5 : Int) < 10) ∧
(∀ M4 : MM, M4 = stI M2 100 (gI M2 96 5).toNat a2 →
(((0 : Int) ≤ gI M4 96 5 ∧ (gI M4 96 5 : Int) < 10) ∧
(∀ M6 : MM, M6 = stI M4 101 (gI M4 96 5).toNat 0 →
(R32 ((gI M6 96 5) + 1) ∧
(∀ M7 : MM, M7 = stI M6 96 5 ((gI M6 96 5) + 1) →
(Q none M7))))))))) :
  Wp G mX9_addThing d 0 0 0 [some (vR 96), some (vI a1), some (vI a2)] [] M 0 0 Q := by
  refine wg_aload_n dX9_addThing_0 rfl (Nat.succ_ne_zero _) ?_
  refine wg_getRe dX9_addThing_1 (fl_X9_16 rfl) rfl rfl (sm6 hS) ?_
  refine wg_aload_n dX9_addThing_4 rfl (Nat.succ_ne_zero _) ?_
  refine wg_getI dX9_addThing_5 (fl_X9_74 rfl) rfl rfl ?_
  refine wg_iload_n dX9_addThing_8 rfl ?_
  obtain ⟨o1, h⟩ := h
  refine wg_iast dX9_addThing_9 rfl o1.1 o1.2 ?_
  generalize hM : stI M 99 (gI M 96 5).toNat a1 = M2
  replace h := h _ hM.symm
  replace hS : ShM M2 := by rw [← hM]; exact hS
  clear hM
  refine wg_aload_n dX9_addThing_10 rfl (Nat.succ_ne_zero _) ?_
  refine wg_getRe dX9_addThing_11 (fl_X9_19 rfl) rfl rfl (sm7 hS) ?_
  refine wg_aload_n dX9_addThing_14 rfl (Nat.succ_ne_zero _) ?_
  refine wg_getI dX9_addThing_15 (fl_X9_74 rfl) rfl rfl ?_
  refine wg_iload_n dX9_addThing_18 rfl ?_
  obtain ⟨o3, h⟩ := h
  refine wg_iast dX9_addThing_19 rfl o3.1 o3.2 ?_
  generalize hM : stI M2 100 (gI M2 96 5).toNat a2 = M4
  replace h := h _ hM.symm
  replace hS : ShM M4 := by rw [← hM]; exact hS
  clear hM
  refine wg_aload_n dX9_addThing_20 rfl (Nat.succ_ne_zero _) ?_
  refine wg_getRe dX9_addThing_21 (fl_X9_22 rfl) rfl rfl (sm8 hS) ?_
  refine wg_aload_n dX9_addThing_24 rfl (Nat.succ_ne_zero _) ?_
  refine wg_getI dX9_addThing_25 (fl_X9_74 rfl) rfl rfl ?_
  refine wg_iconst dX9_addThing_28 qiconst_0 ?_
  obtain ⟨o5, h⟩ := h
  refine wg_iast dX9_addThing_29 rfl o5.1 o5.2 ?_
  generalize hM : stI M4 101 (gI M4 96 5).toNat 0 = M6
  replace h := h _ hM.symm
  replace hS : ShM M6 := by rw [← hM]; exact hS
  clear hM
  refine wg_aload_n dX9_addThing_30 rfl (Nat.succ_ne_zero _) ?_
  refine wg_dup dX9_addThing_31 rfl ?_
  refine wg_getI dX9_addThing_32 (fl_X9_74 rfl) rfl rfl ?_
  refine wg_iconst dX9_addThing_35 qiconst_1 ?_
  obtain ⟨o, h⟩ := h
  refine wg_iadd dX9_addThing_36 o ?_
  refine wg_putI dX9_addThing_37 (fl_X9_74 rfl) rfl rfl rfl ?_
  generalize hM : stI M6 96 5 ((gI M6 96 5) + 1) = M7
  replace h := h _ hM.symm
  replace hS : ShM M7 := by rw [← hM]; exact hS
  clear hM
  exact wp_vret rfl dX9_addThing_40 ⟨Nat.le_refl _, Nat.le_refl _⟩ h
set_option maxRecDepth 100000 in
theorem bX9_addNeed_0 {G : GG} {d : Nat} {M : MM} {Q : Option AV → MM → Prop} (a1 : Int) (a2 : Int) (hS : ShM M) (h :
((0 : Int) ≤ a2 ∧ (a2 : Int) < 10) ∧
((∀ M2 : MM, M2 = stI M 101 a2.toNat (iorv (gI M 101 a2.toNat) (ishlv 1 a1)) →
(R32 ((gI M2 96 9) + 1) ∧
(∀ M3 : MM, M3 = stI M2 96 9 ((gI M2 96 9) + 1) →
(Q none M3)))))) :
  Wp G mX9_addNeed d 0 0 0 [some (vR 96), some (vI a1), some (vI a2)] [] M 0 0 Q := by
  refine wg_aload_n dX9_addNeed_0 rfl (Nat.succ_ne_zero _) ?_
  refine wg_getRe dX9_addNeed_1 (fl_X9_22 rfl) rfl rfl (sm8 hS) ?_
  refine wg_iload_n dX9_addNeed_4 rfl ?_
  refine wg_dup2 dX9_addNeed_5 rfl rfl ?_
  obtain ⟨o1, h⟩ := h
  refine wg_iald dX9_addNeed_6 rfl o1.1 o1.2 ?_
  refine wg_iconst dX9_addNeed_7 qiconst_1 ?_
  refine wg_iload_n dX9_addNeed_8 rfl ?_
  refine wg_ishl dX9_addNeed_9 ?_
  refine wg_ior dX9_addNeed_10 ?_
  refine wg_iast dX9_addNeed_11 rfl o1.1 o1.2 ?_
  generalize hM : stI M 101 a2.toNat (iorv (gI M 101 a2.toNat) (ishlv 1 a1)) = M2
  replace h := h _ hM.symm
  replace hS : ShM M2 := by rw [← hM]; exact hS
  clear hM
  refine wg_aload_n dX9_addNeed_12 rfl (Nat.succ_ne_zero _) ?_
  refine wg_dup dX9_addNeed_13 rfl ?_
  refine wg_getI dX9_addNeed_14 (fl_X9_78 rfl) rfl rfl ?_
  refine wg_iconst dX9_addNeed_17 qiconst_1 ?_
  obtain ⟨o, h⟩ := h
  refine wg_iadd dX9_addNeed_18 o ?_
  refine wg_putI dX9_addNeed_19 (fl_X9_78 rfl) rfl rfl rfl ?_
  generalize hM : stI M2 96 9 ((gI M2 96 9) + 1) = M3
  replace h := h _ hM.symm
  replace hS : ShM M3 := by rw [← hM]; exact hS
  clear hM
  exact wp_vret rfl dX9_addNeed_22 ⟨Nat.le_refl _, Nat.le_refl _⟩ h
set_option maxRecDepth 100000 in
theorem bX9_addPerson_0 {G : GG} {d : Nat} {M : MM} {Q : Option AV → MM → Prop} (a1 : Int) (a2 : Int) (hS : ShM M) (h :
((0 : Int) ≤ gI M 96 10 ∧ (gI M 96 10 : Int) < 8) ∧
(∀ M2 : MM, M2 = stI M 102 (gI M 96 10).toNat a1 →
(((0 : Int) ≤ gI M2 96 10 ∧ (gI M2 96 10 : Int) < 8) ∧
(∀ M4 : MM, M4 = stI M2 103 (gI M2 96 10).toNat a2 →
(R32 ((gI M4 96 10) + 1) ∧
(∀ M5 : MM, M5 = stI M4 96 10 ((gI M4 96 10) + 1) →
(Q none M5))))))) :
  Wp G mX9_addPerson d 0 0 0 [some (vR 96), some (vI a1), some (vI a2)] [] M 0 0 Q := by
  refine wg_aload_n dX9_addPerson_0 rfl (Nat.succ_ne_zero _) ?_
  refine wg_getRe dX9_addPerson_1 (fl_X9_25 rfl) rfl rfl (sm11 hS) ?_
  refine wg_aload_n dX9_addPerson_4 rfl (Nat.succ_ne_zero _) ?_
  refine wg_getI dX9_addPerson_5 (fl_X9_81 rfl) rfl rfl ?_
  refine wg_iload_n dX9_addPerson_8 rfl ?_
  obtain ⟨o1, h⟩ := h
  refine wg_iast dX9_addPerson_9 rfl o1.1 o1.2 ?_
  generalize hM : stI M 102 (gI M 96 10).toNat a1 = M2
  replace h := h _ hM.symm
  replace hS : ShM M2 := by rw [← hM]; exact hS
  clear hM
  refine wg_aload_n dX9_addPerson_10 rfl (Nat.succ_ne_zero _) ?_
  refine wg_getRe dX9_addPerson_11 (fl_X9_28 rfl) rfl rfl (sm12 hS) ?_
  refine wg_aload_n dX9_addPerson_14 rfl (Nat.succ_ne_zero _) ?_
  refine wg_getI dX9_addPerson_15 (fl_X9_81 rfl) rfl rfl ?_
  refine wg_iload_n dX9_addPerson_18 rfl ?_
  obtain ⟨o3, h⟩ := h
  refine wg_iast dX9_addPerson_19 rfl o3.1 o3.2 ?_
  generalize hM : stI M2 103 (gI M2 96 10).toNat a2 = M4
  replace h := h _ hM.symm
  replace hS : ShM M4 := by rw [← hM]; exact hS
  clear hM
  refine wg_aload_n dX9_addPerson_20 rfl (Nat.succ_ne_zero _) ?_
  refine wg_dup dX9_addPerson_21 rfl ?_
  refine wg_getI dX9_addPerson_22 (fl_X9_81 rfl) rfl rfl ?_
  refine wg_iconst dX9_addPerson_25 qiconst_1 ?_
  obtain ⟨o, h⟩ := h
  refine wg_iadd dX9_addPerson_26 o ?_
  refine wg_putI dX9_addPerson_27 (fl_X9_81 rfl) rfl rfl rfl ?_
  generalize hM : stI M4 96 10 ((gI M4 96 10) + 1) = M5
  replace h := h _ hM.symm
  replace hS : ShM M5 := by rw [← hM]; exact hS
  clear hM
  exact wp_vret rfl dX9_addPerson_30 ⟨Nat.le_refl _, Nat.le_refl _⟩ h
set_option maxRecDepth 100000 in
theorem bX9_addBeast_0 {G : GG} {d : Nat} {M : MM} {Q : Option AV → MM → Prop} (a1 : Int) (hS : ShM M) (h :
((0 : Int) ≤ gI M 96 13 ∧ (gI M 96 13 : Int) < 4) ∧
(∀ M2 : MM, M2 = stI M 104 (gI M 96 13).toNat a1 →
(R32 ((gI M2 96 13) + 1) ∧
(∀ M3 : MM, M3 = stI M2 96 13 ((gI M2 96 13) + 1) →
(Q none M3))))) :
  Wp G mX9_addBeast d 0 0 0 [some (vR 96), some (vI a1)] [] M 0 0 Q := by
  refine wg_aload_n dX9_addBeast_0 rfl (Nat.succ_ne_zero _) ?_
  refine wg_getRe dX9_addBeast_1 (fl_X9_31 rfl) rfl rfl (sm14 hS) ?_
  refine wg_aload_n dX9_addBeast_4 rfl (Nat.succ_ne_zero _) ?_
  refine wg_getI dX9_addBeast_5 (fl_X9_84 rfl) rfl rfl ?_
  refine wg_iload_n dX9_addBeast_8 rfl ?_
  obtain ⟨o1, h⟩ := h
  refine wg_iast dX9_addBeast_9 rfl o1.1 o1.2 ?_
  generalize hM : stI M 104 (gI M 96 13).toNat a1 = M2
  replace h := h _ hM.symm
  replace hS : ShM M2 := by rw [← hM]; exact hS
  clear hM
  refine wg_aload_n dX9_addBeast_10 rfl (Nat.succ_ne_zero _) ?_
  refine wg_dup dX9_addBeast_11 rfl ?_
  refine wg_getI dX9_addBeast_12 (fl_X9_84 rfl) rfl rfl ?_
  refine wg_iconst dX9_addBeast_15 qiconst_1 ?_
  obtain ⟨o, h⟩ := h
  refine wg_iadd dX9_addBeast_16 o ?_
  refine wg_putI dX9_addBeast_17 (fl_X9_84 rfl) rfl rfl rfl ?_
  generalize hM : stI M2 96 13 ((gI M2 96 13) + 1) = M3
  replace h := h _ hM.symm
  replace hS : ShM M3 := by rw [← hM]; exact hS
  clear hM
  exact wp_vret rfl dX9_addBeast_20 ⟨Nat.le_refl _, Nat.le_refl _⟩ h
set_option maxRecDepth 100000 in
theorem bX9_addChange_0 {G : GG} {d : Nat} {M : MM} {Q : Option AV → MM → Prop} (a1 : Int) (a2 : Int) (a3 : Int) (a4 : Int) (hS : ShM M) (h :
R32 (4 * (gI M 96 15)) ∧
(((0 : Int) ≤ 4 * (gI M 96 15) ∧ (4 * (gI M 96 15) : Int) < 24) ∧
(∀ M2 : MM, M2 = stI M 105 (4 * (gI M 96 15)).toNat a1 →
(R32 (4 * (gI M2 96 15)) ∧
(R32 ((4 * (gI M2 96 15)) + 1) ∧
(((0 : Int) ≤ (4 * (gI M2 96 15)) + 1 ∧ ((4 * (gI M2 96 15)) + 1 : Int) < 24) ∧
(∀ M4 : MM, M4 = stI M2 105 ((4 * (gI M2 96 15)) + 1).toNat a2 →
(R32 (4 * (gI M4 96 15)) ∧
(R32 ((4 * (gI M4 96 15)) + 2) ∧
(((0 : Int) ≤ (4 * (gI M4 96 15)) + 2 ∧ ((4 * (gI M4 96 15)) + 2 : Int) < 24) ∧
(∀ M6 : MM, M6 = stI M4 105 ((4 * (gI M4 96 15)) + 2).toNat a3 →
(R32 (4 * (gI M6 96 15)) ∧
(R32 ((4 * (gI M6 96 15)) + 3) ∧
(((0 : Int) ≤ (4 * (gI M6 96 15)) + 3 ∧ ((4 * (gI M6 96 15)) + 3 : Int) < 24) ∧
(∀ M8 : MM, M8 = stI M6 105 ((4 * (gI M6 96 15)) + 3).toNat a4 →
(R32 ((gI M8 96 15) + 1) ∧
(∀ M9 : MM, M9 = stI M8 96 15 ((gI M8 96 15) + 1) →
(Q none M9)))))))))))))))))) :
  Wp G mX9_addChange d 0 0 0 [some (vR 96), some (vI a1), some (vI a2), some (vI a3), some (vI a4)] [] M 0 0 Q := by
  refine wg_aload_n dX9_addChange_0 rfl (Nat.succ_ne_zero _) ?_
  refine wg_getRe dX9_addChange_1 (fl_X9_34 rfl) rfl rfl (sm16 hS) ?_
  refine wg_iconst dX9_addChange_4 qiconst_4 ?_
  refine wg_aload_n dX9_addChange_5 rfl (Nat.succ_ne_zero _) ?_
  refine wg_getI dX9_addChange_6 (fl_X9_87 rfl) rfl rfl ?_
  obtain ⟨o, h⟩ := h
  refine wg_imul dX9_addChange_9 o ?_
  refine wg_iload_n dX9_addChange_10 rfl ?_
  obtain ⟨o1, h⟩ := h
  refine wg_iast dX9_addChange_11 rfl o1.1 o1.2 ?_
  generalize hM : stI M 105 (4 * (gI M 96 15)).toNat a1 = M2
  replace h := h _ hM.symm
  replace hS : ShM M2 := by rw [← hM]; exact hS
  clear hM
  refine wg_aload_n dX9_addChange_12 rfl (Nat.succ_ne_zero _) ?_
  refine wg_getRe dX9_addChange_13 (fl_X9_34 rfl) rfl rfl (sm16 hS) ?_
  refine wg_iconst dX9_addChange_16 qiconst_4 ?_
  refine wg_aload_n dX9_addChange_17 rfl (Nat.succ_ne_zero _) ?_
  refine wg_getI dX9_addChange_18 (fl_X9_87 rfl) rfl rfl ?_
  obtain ⟨o, h⟩ := h
  refine wg_imul dX9_addChange_21 o ?_
  refine wg_iconst dX9_addChange_22 qiconst_1 ?_
  obtain ⟨o, h⟩ := h
  refine wg_iadd dX9_addChange_23 o ?_
  refine wg_iload_n dX9_addChange_24 rfl ?_
  obtain ⟨o3, h⟩ := h
  refine wg_iast dX9_addChange_25 rfl o3.1 o3.2 ?_
  generalize hM : stI M2 105 ((4 * (gI M2 96 15)) + 1).toNat a2 = M4
  replace h := h _ hM.symm
  replace hS : ShM M4 := by rw [← hM]; exact hS
  clear hM
  refine wg_aload_n dX9_addChange_26 rfl (Nat.succ_ne_zero _) ?_
  refine wg_getRe dX9_addChange_27 (fl_X9_34 rfl) rfl rfl (sm16 hS) ?_
  refine wg_iconst dX9_addChange_30 qiconst_4 ?_
  refine wg_aload_n dX9_addChange_31 rfl (Nat.succ_ne_zero _) ?_
  refine wg_getI dX9_addChange_32 (fl_X9_87 rfl) rfl rfl ?_
  obtain ⟨o, h⟩ := h
  refine wg_imul dX9_addChange_35 o ?_
  refine wg_iconst dX9_addChange_36 qiconst_2 ?_
  obtain ⟨o, h⟩ := h
  refine wg_iadd dX9_addChange_37 o ?_
  refine wg_iload_n dX9_addChange_38 rfl ?_
  obtain ⟨o5, h⟩ := h
  refine wg_iast dX9_addChange_39 rfl o5.1 o5.2 ?_
  generalize hM : stI M4 105 ((4 * (gI M4 96 15)) + 2).toNat a3 = M6
  replace h := h _ hM.symm
  replace hS : ShM M6 := by rw [← hM]; exact hS
  clear hM
  refine wg_aload_n dX9_addChange_40 rfl (Nat.succ_ne_zero _) ?_
  refine wg_getRe dX9_addChange_41 (fl_X9_34 rfl) rfl rfl (sm16 hS) ?_
  refine wg_iconst dX9_addChange_44 qiconst_4 ?_
  refine wg_aload_n dX9_addChange_45 rfl (Nat.succ_ne_zero _) ?_
  refine wg_getI dX9_addChange_46 (fl_X9_87 rfl) rfl rfl ?_
  obtain ⟨o, h⟩ := h
  refine wg_imul dX9_addChange_49 o ?_
  refine wg_iconst dX9_addChange_50 qiconst_3 ?_
  obtain ⟨o, h⟩ := h
  refine wg_iadd dX9_addChange_51 o ?_
  refine wg_iload dX9_addChange_52 rfl ?_
  obtain ⟨o7, h⟩ := h
  refine wg_iast dX9_addChange_54 rfl o7.1 o7.2 ?_
  generalize hM : stI M6 105 ((4 * (gI M6 96 15)) + 3).toNat a4 = M8
  replace h := h _ hM.symm
  replace hS : ShM M8 := by rw [← hM]; exact hS
  clear hM
  refine wg_aload_n dX9_addChange_55 rfl (Nat.succ_ne_zero _) ?_
  refine wg_dup dX9_addChange_56 rfl ?_
  refine wg_getI dX9_addChange_57 (fl_X9_87 rfl) rfl rfl ?_
  refine wg_iconst dX9_addChange_60 qiconst_1 ?_
  obtain ⟨o, h⟩ := h
  refine wg_iadd dX9_addChange_61 o ?_
  refine wg_putI dX9_addChange_62 (fl_X9_87 rfl) rfl rfl rfl ?_
  generalize hM : stI M8 96 15 ((gI M8 96 15) + 1) = M9
  replace h := h _ hM.symm
  replace hS : ShM M9 := by rw [← hM]; exact hS
  clear hM
  exact wp_vret rfl dX9_addChange_65 ⟨Nat.le_refl _, Nat.le_refl _⟩ h
set_option maxRecDepth 100000 in
theorem bX9_begin_0 {G : GG} {d : Nat} {M : MM} {Q : Option AV → MM → Prop} (hS : ShM M) (h :
Wp G mX9_begin d 0 0 2 [some (vR 96), some (vI 0)] [] M 0 0 Q) :
  Wp G mX9_begin d 0 0 0 [some (vR 96), none] [] M 0 0 Q := by
  refine wg_iconst dX9_begin_0 qiconst_0 ?_
  refine wg_istore_n (L' := [some (vR 96), some (vI 0)]) dX9_begin_1 (Nat.le_of_ble_eq_true rfl) rfl ?_
  exact h
set_option maxRecDepth 100000 in
theorem bX9_begin_2 {G : GG} {d : Nat} {M : MM} {Q : Option AV → MM → Prop} (s1 : Int) (hS : ShM M) (h :
(13 ≤ s1 →
(∀ M2 : MM, M2 = stI M 96 1 0 →
(∀ M3 : MM, M3 = stI M2 96 2 0 →
(Q none M3)))) ∧
(¬ (13 ≤ s1) →
(((0 : Int) ≤ s1 ∧ (s1 : Int) < 156) ∧
(∀ M5 : MM, M5 = stI M 97 s1.toNat 0 →
(R32 (s1 + 1) ∧
(Wp G mX9_begin d 0 0 2 [some (vR 96), some (vI (s1 + 1))] [] M5 0 0 Q)))))) :
  Wp G mX9_begin d 0 0 2 [some (vR 96), some (vI s1)] [] M 0 0 Q := by
  refine wg_iload_n dX9_begin_2 rfl ?_
  refine wg_bipush dX9_begin_3 qbipush_13 ?_
  refine wg_icmp_ge dX9_begin_5 rfl (fun c1 => ?_) (fun c1 => ?_)
  · replace h := h.1 c1
    refine wg_aload_n dX9_begin_21 rfl (Nat.succ_ne_zero _) ?_
    refine wg_iconst dX9_begin_22 qiconst_0 ?_
    refine wg_putI dX9_begin_23 (fl_X9_90 rfl) rfl rfl rfl ?_
    generalize hM : stI M 96 1 0 = M2
    replace h := h _ hM.symm
    replace hS : ShM M2 := by rw [← hM]; exact hS
    clear hM
    refine wg_aload_n dX9_begin_26 rfl (Nat.succ_ne_zero _) ?_
    refine wg_iconst dX9_begin_27 qiconst_0 ?_
    refine wg_putI dX9_begin_28 (fl_X9_93 rfl) rfl rfl rfl ?_
    generalize hM : stI M2 96 2 0 = M3
    replace h := h _ hM.symm
    replace hS : ShM M3 := by rw [← hM]; exact hS
    clear hM
    exact wp_vret rfl dX9_begin_31 ⟨Nat.le_refl _, Nat.le_refl _⟩ h
  · replace h := h.2 c1
    refine wg_aload_n dX9_begin_8 rfl (Nat.succ_ne_zero _) ?_
    refine wg_getRe dX9_begin_9 (fl_X9_7 rfl) rfl rfl (sm0 hS) ?_
    refine wg_iload_n dX9_begin_12 rfl ?_
    refine wg_iconst dX9_begin_13 qiconst_0 ?_
    obtain ⟨o4, h⟩ := h
    refine wg_iast dX9_begin_14 rfl o4.1 o4.2 ?_
    generalize hM : stI M 97 s1.toNat 0 = M5
    replace h := h _ hM.symm
    replace hS : ShM M5 := by rw [← hM]; exact hS
    clear hM
    obtain ⟨o, h⟩ := h
    refine wg_iinc (L' := [some (vR 96), some (vI (s1 + 1))]) dX9_begin_15 (Nat.le_of_ble_eq_true rfl) rfl rfl o ?_
    refine wg_goto dX9_begin_18 rfl ?_
    exact h
set_option maxRecDepth 100000 in
theorem bX9_write_0 {G : GG} {d : Nat} {M : MM} {Q : Option AV → MM → Prop} (a1 : Int) (hS : ShM M) (h :
Ok G mX9_in d 0 0 [vL a1, vL 32, vL 126] M (fun v M1 => ∃ r2 : Int, v = some (vI r2) ∧ ShM M1 ∧ 
((r2 ≠ 0 →
(((gI M1 96 4) ≠ 200 →
(((0 : Int) ≤ gI M1 96 4 ∧ (gI M1 96 4 : Int) < 200) ∧
(∀ M6 : MM, M6 = stI M1 98 (gI M1 96 4).toNat a1 →
(R32 ((gI M6 96 4) + 1) ∧
(∀ M7 : MM, M7 = stI M6 96 4 ((gI M6 96 4) + 1) →
(Q (some (vI (gI M7 96 4))) M7)))))) ∧
((gI M1 96 4) = 200 →
(Q (some (vI (-3))) M1)))) ∧
(r2 = 0 →
(Q (some (vI (-1))) M1))))) :
  Wp G mX9_write (d + 1) 0 0 0 [some (vR 96), some (vI a1)] [] M 0 0 Q := by
  refine wg_iload_n dX9_write_0 rfl ?_
  refine wg_i2l dX9_write_1 ?_
  refine wg_ldc2 dX9_write_2 kc_X9_96 ⟨by decide, by decide⟩ ?_
  refine wg_ldc2 dX9_write_5 kc_X9_98 ⟨by decide, by decide⟩ ?_
  refine wg_callS (I' := mX9_in) (np := 3) (d' := d) (as := [vL a1, vL 32, vL 126]) (st := []) dX9_write_8 lk_X9_100 ci_X9_in rfl rfl (Nat.le_of_ble_eq_true rfl) (Nat.le_refl _) ⟨Nat.le_refl _, Nat.le_refl _⟩ h (fun v M1 h => ?_)
  obtain ⟨r2, rfl, hS, h⟩ := h
  refine wg_if_ne dX9_write_11 rfl (fun c3 => ?_) (fun c3 => ?_)
  · replace h := h.1 c3
    refine wg_aload_n dX9_write_16 rfl (Nat.succ_ne_zero _) ?_
    refine wg_getI dX9_write_17 (fl_X9_104 rfl) rfl rfl ?_
    refine wg_sipush dX9_write_20 qsipush_200 ?_
    refine wg_icmp_ne dX9_write_23 rfl (fun c4 => ?_) (fun c4 => ?_)
    · replace h := h.1 c4
      refine wg_aload_n dX9_write_29 rfl (Nat.succ_ne_zero _) ?_
      refine wg_getRe dX9_write_30 (fl_X9_13 rfl) rfl rfl (sm3 hS) ?_
      refine wg_aload_n dX9_write_33 rfl (Nat.succ_ne_zero _) ?_
      refine wg_getI dX9_write_34 (fl_X9_104 rfl) rfl rfl ?_
      refine wg_iload_n dX9_write_37 rfl ?_
      obtain ⟨o5, h⟩ := h
      refine wg_iast dX9_write_38 rfl o5.1 o5.2 ?_
      generalize hM : stI M1 98 (gI M1 96 4).toNat a1 = M6
      replace h := h _ hM.symm
      replace hS : ShM M6 := by rw [← hM]; exact hS
      clear hM
      refine wg_aload_n dX9_write_39 rfl (Nat.succ_ne_zero _) ?_
      refine wg_dup dX9_write_40 rfl ?_
      refine wg_getI dX9_write_41 (fl_X9_104 rfl) rfl rfl ?_
      refine wg_iconst dX9_write_44 qiconst_1 ?_
      obtain ⟨o, h⟩ := h
      refine wg_iadd dX9_write_45 o ?_
      refine wg_putI dX9_write_46 (fl_X9_104 rfl) rfl rfl rfl ?_
      generalize hM : stI M6 96 4 ((gI M6 96 4) + 1) = M7
      replace h := h _ hM.symm
      replace hS : ShM M7 := by rw [← hM]; exact hS
      clear hM
      refine wg_aload_n dX9_write_49 rfl (Nat.succ_ne_zero _) ?_
      refine wg_getI dX9_write_50 (fl_X9_104 rfl) rfl rfl ?_
      exact wp_iret rfl dX9_write_53 ⟨Nat.le_refl _, Nat.le_refl _⟩ h
    · replace h := h.2 c4
      refine wg_bipush dX9_write_26 qbipush_m3 ?_
      exact wp_iret rfl dX9_write_28 ⟨Nat.le_refl _, Nat.le_refl _⟩ h
  · replace h := h.2 c3
    refine wg_iconst dX9_write_14 qiconst_m1 ?_
    exact wp_iret rfl dX9_write_15 ⟨Nat.le_refl _, Nat.le_refl _⟩ h
set_option maxRecDepth 100000 in
theorem bX9_wipe_0 {G : GG} {d : Nat} {M : MM} {Q : Option AV → MM → Prop} (hS : ShM M) (h :
∀ M1 : MM, M1 = stI M 96 4 0 →
(Q (some (vI (gI M 96 4))) M1)) :
  Wp G mX9_wipe d 0 0 0 [some (vR 96), none] [] M 0 0 Q := by
  refine wg_aload_n dX9_wipe_0 rfl (Nat.succ_ne_zero _) ?_
  refine wg_getI dX9_wipe_1 (fl_X9_104 rfl) rfl rfl ?_
  refine wg_istore_n (L' := [some (vR 96), some (vI (gI M 96 4))]) dX9_wipe_4 (Nat.le_of_ble_eq_true rfl) rfl ?_
  refine wg_aload_n dX9_wipe_5 rfl (Nat.succ_ne_zero _) ?_
  refine wg_iconst dX9_wipe_6 qiconst_0 ?_
  refine wg_putI dX9_wipe_7 (fl_X9_104 rfl) rfl rfl rfl ?_
  generalize hM : stI M 96 4 0 = M1
  replace h := h _ hM.symm
  replace hS : ShM M1 := by rw [← hM]; exact hS
  clear hM
  refine wg_iload_n dX9_wipe_10 rfl ?_
  exact wp_iret rfl dX9_wipe_11 ⟨Nat.le_refl _, Nat.le_refl _⟩ h
set_option maxRecDepth 100000 in
theorem bX9_isFigure_0 {G : GG} {d : Nat} {M : MM} {Q : Option AV → MM → Prop} (a0 : Int) (h :
Ok G mX9_in d 0 0 [vL a0, vL 48, vL 57] M (fun v M1 => ∃ r2 : Int, v = some (vI r2) ∧ 
((r2 = 0 ∨ r2 = 1) ∧ Q (some (vI r2)) M1))) :
  Wp G mX9_isFigure (d + 1) 0 0 0 [some (vI a0)] [] M 0 0 Q := by
  refine wg_iload_n dX9_isFigure_0 rfl ?_
  refine wg_i2l dX9_isFigure_1 ?_
  refine wg_ldc2 dX9_isFigure_2 kc_X9_107 ⟨by decide, by decide⟩ ?_
  refine wg_ldc2 dX9_isFigure_5 kc_X9_109 ⟨by decide, by decide⟩ ?_
  refine wg_callS (I' := mX9_in) (np := 3) (d' := d) (as := [vL a0, vL 48, vL 57]) (st := []) dX9_isFigure_8 lk_X9_100 ci_X9_in rfl rfl (Nat.le_of_ble_eq_true rfl) (Nat.le_refl _) ⟨Nat.le_refl _, Nat.le_refl _⟩ h (fun v M1 h => ?_)
  obtain ⟨r2, rfl, h⟩ := h
  obtain ⟨o, h⟩ := h
  exact wp_zret rfl dX9_isFigure_11 ⟨Nat.le_refl _, Nat.le_refl _⟩ o h
set_option maxRecDepth 100000 in
theorem bX9_isThere_0 {G : GG} {d : Nat} {M : MM} {Q : Option AV → MM → Prop} (a1 : Int) (hS : ShM M) (h :
((gI M 96 4) ≤ (gI M 96 17) →
(Q (some (vI 0)) M)) ∧
(¬ ((gI M 96 4) ≤ (gI M 96 17)) →
(((0 : Int) ≤ gI M 96 17 ∧ (gI M 96 17 : Int) < 200) ∧
(((gI M 98 (gI M 96 17).toNat) ≠ a1 →
(Q (some (vI 0)) M)) ∧
((gI M 98 (gI M 96 17).toNat) = a1 →
(Q (some (vI 1)) M)))))) :
  Wp G mX9_isThere d 0 0 0 [some (vR 96), some (vI a1)] [] M 0 0 Q := by
  refine wg_aload_n dX9_isThere_0 rfl (Nat.succ_ne_zero _) ?_
  refine wg_getI dX9_isThere_1 (fl_X9_111 rfl) rfl rfl ?_
  refine wg_aload_n dX9_isThere_4 rfl (Nat.succ_ne_zero _) ?_
  refine wg_getI dX9_isThere_5 (fl_X9_104 rfl) rfl rfl ?_
  refine wg_icmp_ge dX9_isThere_8 rfl (fun c1 => ?_) (fun c1 => ?_)
  · replace h := h.1 c1
    refine wg_iconst dX9_isThere_28 qiconst_0 ?_
    exact wp_zret rfl dX9_isThere_29 ⟨Nat.le_refl _, Nat.le_refl _⟩ (Or.inl rfl) h
  · replace h := h.2 c1
    refine wg_aload_n dX9_isThere_11 rfl (Nat.succ_ne_zero _) ?_
    refine wg_getRe dX9_isThere_12 (fl_X9_13 rfl) rfl rfl (sm3 hS) ?_
    refine wg_aload_n dX9_isThere_15 rfl (Nat.succ_ne_zero _) ?_
    refine wg_getI dX9_isThere_16 (fl_X9_111 rfl) rfl rfl ?_
    obtain ⟨o2, h⟩ := h
    refine wg_iald dX9_isThere_19 rfl o2.1 o2.2 ?_
    refine wg_iload_n dX9_isThere_20 rfl ?_
    refine wg_icmp_ne dX9_isThere_21 rfl (fun c3 => ?_) (fun c3 => ?_)
    · replace h := h.1 c3
      refine wg_iconst dX9_isThere_28 qiconst_0 ?_
      exact wp_zret rfl dX9_isThere_29 ⟨Nat.le_refl _, Nat.le_refl _⟩ (Or.inl rfl) h
    · replace h := h.2 c3
      refine wg_iconst dX9_isThere_24 qiconst_1 ?_
      refine wg_goto dX9_isThere_25 rfl ?_
      exact wp_zret rfl dX9_isThere_29 ⟨Nat.le_refl _, Nat.le_refl _⟩ (Or.inr rfl) h
set_option maxRecDepth 100000 in
theorem bX9_reads_0 {G : GG} {d : Nat} {M : MM} {Q : Option AV → MM → Prop} (a1 : Int) (a2 : Int) (a3 : Int) (hS : ShM M) (h :
Wp G mX9_reads (d + 1) 0 0 6 [some (vR 96), some (vI a1), some (vI a2), some (vI a3), some (vI 0), some (vI 0)] [] M 0 0 Q) :
  Wp G mX9_reads (d + 1) 0 0 0 [some (vR 96), some (vI a1), some (vI a2), some (vI a3), none, none] [] M 0 0 Q := by
  refine wg_iconst dX9_reads_0 qiconst_0 ?_
  refine wg_istore (L' := [some (vR 96), some (vI a1), some (vI a2), some (vI a3), some (vI 0), none]) dX9_reads_1 (Nat.le_of_ble_eq_true rfl) rfl ?_
  refine wg_iconst dX9_reads_3 qiconst_0 ?_
  refine wg_istore (L' := [some (vR 96), some (vI a1), some (vI a2), some (vI a3), some (vI 0), some (vI 0)]) dX9_reads_4 (Nat.le_of_ble_eq_true rfl) rfl ?_
  exact h
set_option maxRecDepth 100000 in
theorem bX9_reads_6 {G : GG} {d : Nat} {M : MM} {Q : Option AV → MM → Prop} (a1 : Int) (a2 : Int) (a3 : Int) (s4 : Int) (s5 : Int) (hS : ShM M) (h :
(2 ≤ s5 →
(((0 : Int) ≤ a1 ∧ (a1 : Int) < 4) ∧
(∀ M3 : MM, M3 = stI M 106 a1.toNat s4 →
((s5 ≤ 0 →
(Q (some (vI 0)) M3)) ∧
(¬ (s5 ≤ 0) →
(Ok G mX9_in d 0 0 [vL s4, vL a2, vL a3] M3 (fun v M5 => ∃ r6 : Int, v = some (vI r6) ∧ ShM M5 ∧ 
((r6 = 0 →
(Q (some (vI 0)) M5)) ∧
(¬ (r6 = 0) →
(Q (some (vI 1)) M5)))))))))) ∧
(¬ (2 ≤ s5) →
(((gI M 96 4) ≤ (gI M 96 17) →
(((0 : Int) ≤ a1 ∧ (a1 : Int) < 4) ∧
(∀ M10 : MM, M10 = stI M 106 a1.toNat s4 →
((s5 ≤ 0 →
(Q (some (vI 0)) M10)) ∧
(¬ (s5 ≤ 0) →
(Ok G mX9_in d 0 0 [vL s4, vL a2, vL a3] M10 (fun v M12 => ∃ r13 : Int, v = some (vI r13) ∧ ShM M12 ∧ 
((r13 = 0 →
(Q (some (vI 0)) M12)) ∧
(¬ (r13 = 0) →
(Q (some (vI 1)) M12)))))))))) ∧
(¬ ((gI M 96 4) ≤ (gI M 96 17)) →
(((0 : Int) ≤ gI M 96 17 ∧ (gI M 96 17 : Int) < 200) ∧
(Ok G mX9_isFigure d 0 0 [vI (gI M 98 (gI M 96 17).toNat)] M (fun v M16 => ∃ r17 : Int, v = some (vI r17) ∧ ShM M16 ∧ 
((r17 = 0 →
(((0 : Int) ≤ a1 ∧ (a1 : Int) < 4) ∧
(∀ M20 : MM, M20 = stI M16 106 a1.toNat s4 →
((s5 ≤ 0 →
(Q (some (vI 0)) M20)) ∧
(¬ (s5 ≤ 0) →
(Ok G mX9_in d 0 0 [vL s4, vL a2, vL a3] M20 (fun v M22 => ∃ r23 : Int, v = some (vI r23) ∧ ShM M22 ∧ 
((r23 = 0 →
(Q (some (vI 0)) M22)) ∧
(¬ (r23 = 0) →
(Q (some (vI 1)) M22)))))))))) ∧
(¬ (r17 = 0) →
(R32 (10 * s4) ∧
(((0 : Int) ≤ gI M16 96 17 ∧ (gI M16 96 17 : Int) < 200) ∧
(R32 ((10 * s4) + (gI M16 98 (gI M16 96 17).toNat)) ∧
(R32 (((10 * s4) + (gI M16 98 (gI M16 96 17).toNat)) - 48) ∧
(R32 (s5 + 1) ∧
(R32 ((gI M16 96 17) + 1) ∧
(∀ M26 : MM, M26 = stI M16 96 17 ((gI M16 96 17) + 1) →
(Wp G mX9_reads (d + 1) 0 0 6 [some (vR 96), some (vI a1), some (vI a2), some (vI a3), some (vI (((10 * s4) + (gI M16 98 (gI M16 96 17).toNat)) - 48)), some (vI (s5 + 1))] [] M26 0 0 Q))))))))))))))))) :
  Wp G mX9_reads (d + 1) 0 0 6 [some (vR 96), some (vI a1), some (vI a2), some (vI a3), some (vI s4), some (vI s5)] [] M 0 0 Q := by
  refine wg_iload dX9_reads_6 rfl ?_
  refine wg_iconst dX9_reads_8 qiconst_2 ?_
  refine wg_icmp_ge dX9_reads_9 rfl (fun c1 => ?_) (fun c1 => ?_)
  · replace h := h.1 c1
    refine wg_aload_n dX9_reads_74 rfl (Nat.succ_ne_zero _) ?_
    refine wg_getRe dX9_reads_75 (fl_X9_37 rfl) rfl rfl (sm18 hS) ?_
    refine wg_iload_n dX9_reads_78 rfl ?_
    refine wg_iload dX9_reads_79 rfl ?_
    obtain ⟨o2, h⟩ := h
    refine wg_iast dX9_reads_81 rfl o2.1 o2.2 ?_
    generalize hM : stI M 106 a1.toNat s4 = M3
    replace h := h _ hM.symm
    replace hS : ShM M3 := by rw [← hM]; exact hS
    clear hM
    refine wg_iload dX9_reads_82 rfl ?_
    refine wg_if_le dX9_reads_84 rfl (fun c4 => ?_) (fun c4 => ?_)
    · replace h := h.1 c4
      refine wg_iconst dX9_reads_104 qiconst_0 ?_
      exact wp_zret rfl dX9_reads_105 ⟨Nat.le_refl _, Nat.le_refl _⟩ (Or.inl rfl) h
    · replace h := h.2 c4
      refine wg_iload dX9_reads_87 rfl ?_
      refine wg_i2l dX9_reads_89 ?_
      refine wg_iload_n dX9_reads_90 rfl ?_
      refine wg_i2l dX9_reads_91 ?_
      refine wg_iload_n dX9_reads_92 rfl ?_
      refine wg_i2l dX9_reads_93 ?_
      refine wg_callS (I' := mX9_in) (np := 3) (d' := d) (as := [vL s4, vL a2, vL a3]) (st := []) dX9_reads_94 lk_X9_100 ci_X9_in rfl rfl (Nat.le_of_ble_eq_true rfl) (Nat.le_refl _) ⟨Nat.le_refl _, Nat.le_refl _⟩ h (fun v M5 h => ?_)
      obtain ⟨r6, rfl, hS, h⟩ := h
      refine wg_if_eq dX9_reads_97 rfl (fun c7 => ?_) (fun c7 => ?_)
      · replace h := h.1 c7
        refine wg_iconst dX9_reads_104 qiconst_0 ?_
        exact wp_zret rfl dX9_reads_105 ⟨Nat.le_refl _, Nat.le_refl _⟩ (Or.inl rfl) h
      · replace h := h.2 c7
        refine wg_iconst dX9_reads_100 qiconst_1 ?_
        refine wg_goto dX9_reads_101 rfl ?_
        exact wp_zret rfl dX9_reads_105 ⟨Nat.le_refl _, Nat.le_refl _⟩ (Or.inr rfl) h
  · replace h := h.2 c1
    refine wg_aload_n dX9_reads_12 rfl (Nat.succ_ne_zero _) ?_
    refine wg_getI dX9_reads_13 (fl_X9_111 rfl) rfl rfl ?_
    refine wg_aload_n dX9_reads_16 rfl (Nat.succ_ne_zero _) ?_
    refine wg_getI dX9_reads_17 (fl_X9_104 rfl) rfl rfl ?_
    refine wg_icmp_ge dX9_reads_20 rfl (fun c8 => ?_) (fun c8 => ?_)
    · replace h := h.1 c8
      refine wg_aload_n dX9_reads_74 rfl (Nat.succ_ne_zero _) ?_
      refine wg_getRe dX9_reads_75 (fl_X9_37 rfl) rfl rfl (sm18 hS) ?_
      refine wg_iload_n dX9_reads_78 rfl ?_
      refine wg_iload dX9_reads_79 rfl ?_
      obtain ⟨o9, h⟩ := h
      refine wg_iast dX9_reads_81 rfl o9.1 o9.2 ?_
      generalize hM : stI M 106 a1.toNat s4 = M10
      replace h := h _ hM.symm
      replace hS : ShM M10 := by rw [← hM]; exact hS
      clear hM
      refine wg_iload dX9_reads_82 rfl ?_
      refine wg_if_le dX9_reads_84 rfl (fun c11 => ?_) (fun c11 => ?_)
      · replace h := h.1 c11
        refine wg_iconst dX9_reads_104 qiconst_0 ?_
        exact wp_zret rfl dX9_reads_105 ⟨Nat.le_refl _, Nat.le_refl _⟩ (Or.inl rfl) h
      · replace h := h.2 c11
        refine wg_iload dX9_reads_87 rfl ?_
        refine wg_i2l dX9_reads_89 ?_
        refine wg_iload_n dX9_reads_90 rfl ?_
        refine wg_i2l dX9_reads_91 ?_
        refine wg_iload_n dX9_reads_92 rfl ?_
        refine wg_i2l dX9_reads_93 ?_
        refine wg_callS (I' := mX9_in) (np := 3) (d' := d) (as := [vL s4, vL a2, vL a3]) (st := []) dX9_reads_94 lk_X9_100 ci_X9_in rfl rfl (Nat.le_of_ble_eq_true rfl) (Nat.le_refl _) ⟨Nat.le_refl _, Nat.le_refl _⟩ h (fun v M12 h => ?_)
        obtain ⟨r13, rfl, hS, h⟩ := h
        refine wg_if_eq dX9_reads_97 rfl (fun c14 => ?_) (fun c14 => ?_)
        · replace h := h.1 c14
          refine wg_iconst dX9_reads_104 qiconst_0 ?_
          exact wp_zret rfl dX9_reads_105 ⟨Nat.le_refl _, Nat.le_refl _⟩ (Or.inl rfl) h
        · replace h := h.2 c14
          refine wg_iconst dX9_reads_100 qiconst_1 ?_
          refine wg_goto dX9_reads_101 rfl ?_
          exact wp_zret rfl dX9_reads_105 ⟨Nat.le_refl _, Nat.le_refl _⟩ (Or.inr rfl) h
    · replace h := h.2 c8
      refine wg_aload_n dX9_reads_23 rfl (Nat.succ_ne_zero _) ?_
      refine wg_getRe dX9_reads_24 (fl_X9_13 rfl) rfl rfl (sm3 hS) ?_
      refine wg_aload_n dX9_reads_27 rfl (Nat.succ_ne_zero _) ?_
      refine wg_getI dX9_reads_28 (fl_X9_111 rfl) rfl rfl ?_
      obtain ⟨o15, h⟩ := h
      refine wg_iald dX9_reads_31 rfl o15.1 o15.2 ?_
      refine wg_callS (I' := mX9_isFigure) (np := 1) (d' := d) (as := [vI (gI M 98 (gI M 96 17).toNat)]) (st := []) dX9_reads_32 lk_X9_114 ci_X9_isFigure rfl rfl (Nat.le_of_ble_eq_true rfl) (Nat.le_refl _) ⟨Nat.le_refl _, Nat.le_refl _⟩ h (fun v M16 h => ?_)
      obtain ⟨r17, rfl, hS, h⟩ := h
      refine wg_if_eq dX9_reads_35 rfl (fun c18 => ?_) (fun c18 => ?_)
      · replace h := h.1 c18
        refine wg_aload_n dX9_reads_74 rfl (Nat.succ_ne_zero _) ?_
        refine wg_getRe dX9_reads_75 (fl_X9_37 rfl) rfl rfl (sm18 hS) ?_
        refine wg_iload_n dX9_reads_78 rfl ?_
        refine wg_iload dX9_reads_79 rfl ?_
        obtain ⟨o19, h⟩ := h
        refine wg_iast dX9_reads_81 rfl o19.1 o19.2 ?_
        generalize hM : stI M16 106 a1.toNat s4 = M20
        replace h := h _ hM.symm
        replace hS : ShM M20 := by rw [← hM]; exact hS
        clear hM
        refine wg_iload dX9_reads_82 rfl ?_
        refine wg_if_le dX9_reads_84 rfl (fun c21 => ?_) (fun c21 => ?_)
        · replace h := h.1 c21
          refine wg_iconst dX9_reads_104 qiconst_0 ?_
          exact wp_zret rfl dX9_reads_105 ⟨Nat.le_refl _, Nat.le_refl _⟩ (Or.inl rfl) h
        · replace h := h.2 c21
          refine wg_iload dX9_reads_87 rfl ?_
          refine wg_i2l dX9_reads_89 ?_
          refine wg_iload_n dX9_reads_90 rfl ?_
          refine wg_i2l dX9_reads_91 ?_
          refine wg_iload_n dX9_reads_92 rfl ?_
          refine wg_i2l dX9_reads_93 ?_
          refine wg_callS (I' := mX9_in) (np := 3) (d' := d) (as := [vL s4, vL a2, vL a3]) (st := []) dX9_reads_94 lk_X9_100 ci_X9_in rfl rfl (Nat.le_of_ble_eq_true rfl) (Nat.le_refl _) ⟨Nat.le_refl _, Nat.le_refl _⟩ h (fun v M22 h => ?_)
          obtain ⟨r23, rfl, hS, h⟩ := h
          refine wg_if_eq dX9_reads_97 rfl (fun c24 => ?_) (fun c24 => ?_)
          · replace h := h.1 c24
            refine wg_iconst dX9_reads_104 qiconst_0 ?_
            exact wp_zret rfl dX9_reads_105 ⟨Nat.le_refl _, Nat.le_refl _⟩ (Or.inl rfl) h
          · replace h := h.2 c24
            refine wg_iconst dX9_reads_100 qiconst_1 ?_
            refine wg_goto dX9_reads_101 rfl ?_
            exact wp_zret rfl dX9_reads_105 ⟨Nat.le_refl _, Nat.le_refl _⟩ (Or.inr rfl) h
      · replace h := h.2 c18
        refine wg_bipush dX9_reads_38 qbipush_10 ?_
        refine wg_iload dX9_reads_40 rfl ?_
        obtain ⟨o, h⟩ := h
        refine wg_imul dX9_reads_42 o ?_
        refine wg_aload_n dX9_reads_43 rfl (Nat.succ_ne_zero _) ?_
        refine wg_getRe dX9_reads_44 (fl_X9_13 rfl) rfl rfl (sm3 hS) ?_
        refine wg_aload_n dX9_reads_47 rfl (Nat.succ_ne_zero _) ?_
        refine wg_getI dX9_reads_48 (fl_X9_111 rfl) rfl rfl ?_
        obtain ⟨o25, h⟩ := h
        refine wg_iald dX9_reads_51 rfl o25.1 o25.2 ?_
        obtain ⟨o, h⟩ := h
        refine wg_iadd dX9_reads_52 o ?_
        refine wg_bipush dX9_reads_53 qbipush_48 ?_
        obtain ⟨o, h⟩ := h
        refine wg_isub dX9_reads_55 o ?_
        refine wg_istore (L' := [some (vR 96), some (vI a1), some (vI a2), some (vI a3), some (vI (((10 * s4) + (gI M16 98 (gI M16 96 17).toNat)) - 48)), some (vI s5)]) dX9_reads_56 (Nat.le_of_ble_eq_true rfl) rfl ?_
        obtain ⟨o, h⟩ := h
        refine wg_iinc (L' := [some (vR 96), some (vI a1), some (vI a2), some (vI a3), some (vI (((10 * s4) + (gI M16 98 (gI M16 96 17).toNat)) - 48)), some (vI (s5 + 1))]) dX9_reads_58 (Nat.le_of_ble_eq_true rfl) rfl rfl o ?_
        refine wg_aload_n dX9_reads_61 rfl (Nat.succ_ne_zero _) ?_
        refine wg_dup dX9_reads_62 rfl ?_
        refine wg_getI dX9_reads_63 (fl_X9_111 rfl) rfl rfl ?_
        refine wg_iconst dX9_reads_66 qiconst_1 ?_
        obtain ⟨o, h⟩ := h
        refine wg_iadd dX9_reads_67 o ?_
        refine wg_putI dX9_reads_68 (fl_X9_111 rfl) rfl rfl rfl ?_
        generalize hM : stI M16 96 17 ((gI M16 96 17) + 1) = M26
        replace h := h _ hM.symm
        replace hS : ShM M26 := by rw [← hM]; exact hS
        clear hM
        refine wg_goto dX9_reads_71 rfl ?_
        exact h
set_option maxRecDepth 100000 in
theorem bX9_readsComma_0 {G : GG} {d : Nat} {M : MM} {Q : Option AV → MM → Prop} (hS : ShM M) (h :
Ok G mX9_isThere d 0 0 [vR 96, vI 44] M (fun v M1 => ∃ r2 : Int, v = some (vI r2) ∧ ShM M1 ∧ 
(R32 ((gI M1 96 17) + (if r2 = 0 then (0 : Int) else 1)) ∧
(∀ M4 : MM, M4 = stI M1 96 17 ((gI M1 96 17) + (if r2 = 0 then (0 : Int) else 1)) →
((r2 = 0 ∨ r2 = 1) ∧ Q (some (vI r2)) M4))))) :
  Wp G mX9_readsComma (d + 1) 0 0 0 [some (vR 96), none] [] M 0 0 Q := by
  refine wg_aload_n dX9_readsComma_0 rfl (Nat.succ_ne_zero _) ?_
  refine wg_bipush dX9_readsComma_1 qbipush_44 ?_
  refine wg_callV (I' := mX9_isThere) (ci := 9) (np := 1) (d' := d) (q := 96) (as := [vI 44]) (st := []) dX9_readsComma_3 lk_X9_118 ci_X9_isThere rfl (Nat.le_of_ble_eq_true rfl) rfl rfl (Nat.le_of_ble_eq_true rfl) rfl (Nat.le_refl _) ⟨Nat.le_refl _, Nat.le_refl _⟩ h (fun v M1 h => ?_)
  obtain ⟨r2, rfl, hS, h⟩ := h
  refine wg_istore_n (L' := [some (vR 96), some (vI r2)]) dX9_readsComma_6 (Nat.le_of_ble_eq_true rfl) rfl ?_
  refine wg_aload_n dX9_readsComma_7 rfl (Nat.succ_ne_zero _) ?_
  refine wg_dup dX9_readsComma_8 rfl ?_
  refine wg_getI dX9_readsComma_9 (fl_X9_111 rfl) rfl rfl ?_
  refine wg_iload_n dX9_readsComma_12 rfl ?_
  have hJ5 : Wp G mX9_readsComma (d + 1) 0 0 21 [some (vR 96), some (vI r2)] [vI (if r2 = 0 then (0 : Int) else 1), vI (gI M1 96 17), vR 96] M1 0 0 Q := by
    obtain ⟨o, h⟩ := h
    refine wg_iadd dX9_readsComma_21 o ?_
    refine wg_putI dX9_readsComma_22 (fl_X9_111 rfl) rfl rfl rfl ?_
    generalize hM : stI M1 96 17 ((gI M1 96 17) + (if r2 = 0 then (0 : Int) else 1)) = M4
    replace h := h _ hM.symm
    replace hS : ShM M4 := by rw [← hM]; exact hS
    clear hM
    refine wg_iload_n dX9_readsComma_25 rfl ?_
    obtain ⟨o, h⟩ := h
    exact wp_zret rfl dX9_readsComma_26 ⟨Nat.le_refl _, Nat.le_refl _⟩ o h
  refine wg_if_eq dX9_readsComma_13 rfl (fun c3 => ?_) (fun c3 => ?_)
  · rw [show (if r2 = 0 then (0 : Int) else 1) = 0 from if_pos c3] at hJ5
    refine wg_iconst dX9_readsComma_20 qiconst_0 ?_
    exact hJ5
  · rw [show (if r2 = 0 then (0 : Int) else 1) = 1 from if_neg c3] at hJ5
    refine wg_iconst dX9_readsComma_16 qiconst_1 ?_
    refine wg_goto dX9_readsComma_17 rfl ?_
    exact hJ5
set_option maxRecDepth 100000 in
theorem bX9_readsTwo_0 {G : GG} {d : Nat} {M : MM} {Q : Option AV → MM → Prop} (a1 : Int) (a2 : Int) (a3 : Int) (hS : ShM M) (h :
Ok G mX9_reads d 0 0 [vR 96, vI 0, vI 0, vI a1] M (fun v M1 => ∃ r2 : Int, v = some (vI r2) ∧ ShM M1 ∧ 
((r2 = 0 →
(Q (some (vI 0)) M1)) ∧
(¬ (r2 = 0) →
(Ok G mX9_readsComma d 0 0 [vR 96] M1 (fun v M4 => ∃ r5 : Int, v = some (vI r5) ∧ ShM M4 ∧ 
((r5 = 0 →
(Q (some (vI 0)) M4)) ∧
(¬ (r5 = 0) →
(Ok G mX9_reads d 0 0 [vR 96, vI 1, vI a2, vI a3] M4 (fun v M7 => ∃ r8 : Int, v = some (vI r8) ∧ ShM M7 ∧ 
((r8 = 0 →
(Q (some (vI 0)) M7)) ∧
(¬ (r8 = 0) →
(Q (some (vI 1)) M7))))))))))))) :
  Wp G mX9_readsTwo (d + 1) 0 0 0 [some (vR 96), some (vI a1), some (vI a2), some (vI a3)] [] M 0 0 Q := by
  refine wg_aload_n dX9_readsTwo_0 rfl (Nat.succ_ne_zero _) ?_
  refine wg_iconst dX9_readsTwo_1 qiconst_0 ?_
  refine wg_iconst dX9_readsTwo_2 qiconst_0 ?_
  refine wg_iload_n dX9_readsTwo_3 rfl ?_
  refine wg_callV (I' := mX9_reads) (ci := 9) (np := 3) (d' := d) (q := 96) (as := [vI 0, vI 0, vI a1]) (st := []) dX9_readsTwo_4 lk_X9_121 ci_X9_reads rfl (Nat.le_of_ble_eq_true rfl) rfl rfl (Nat.le_of_ble_eq_true rfl) rfl (Nat.le_refl _) ⟨Nat.le_refl _, Nat.le_refl _⟩ h (fun v M1 h => ?_)
  obtain ⟨r2, rfl, hS, h⟩ := h
  refine wg_if_eq dX9_readsTwo_7 rfl (fun c3 => ?_) (fun c3 => ?_)
  · replace h := h.1 c3
    refine wg_iconst dX9_readsTwo_31 qiconst_0 ?_
    exact wp_zret rfl dX9_readsTwo_32 ⟨Nat.le_refl _, Nat.le_refl _⟩ (Or.inl rfl) h
  · replace h := h.2 c3
    refine wg_aload_n dX9_readsTwo_10 rfl (Nat.succ_ne_zero _) ?_
    refine wg_callV (I' := mX9_readsComma) (ci := 9) (np := 0) (d' := d) (q := 96) (as := []) (st := []) dX9_readsTwo_11 lk_X9_125 ci_X9_readsComma rfl (Nat.le_of_ble_eq_true rfl) rfl rfl (Nat.le_of_ble_eq_true rfl) rfl (Nat.le_refl _) ⟨Nat.le_refl _, Nat.le_refl _⟩ h (fun v M4 h => ?_)
    obtain ⟨r5, rfl, hS, h⟩ := h
    refine wg_if_eq dX9_readsTwo_14 rfl (fun c6 => ?_) (fun c6 => ?_)
    · replace h := h.1 c6
      refine wg_iconst dX9_readsTwo_31 qiconst_0 ?_
      exact wp_zret rfl dX9_readsTwo_32 ⟨Nat.le_refl _, Nat.le_refl _⟩ (Or.inl rfl) h
    · replace h := h.2 c6
      refine wg_aload_n dX9_readsTwo_17 rfl (Nat.succ_ne_zero _) ?_
      refine wg_iconst dX9_readsTwo_18 qiconst_1 ?_
      refine wg_iload_n dX9_readsTwo_19 rfl ?_
      refine wg_iload_n dX9_readsTwo_20 rfl ?_
      refine wg_callV (I' := mX9_reads) (ci := 9) (np := 3) (d' := d) (q := 96) (as := [vI 1, vI a2, vI a3]) (st := []) dX9_readsTwo_21 lk_X9_121 ci_X9_reads rfl (Nat.le_of_ble_eq_true rfl) rfl rfl (Nat.le_of_ble_eq_true rfl) rfl (Nat.le_refl _) ⟨Nat.le_refl _, Nat.le_refl _⟩ h (fun v M7 h => ?_)
      obtain ⟨r8, rfl, hS, h⟩ := h
      refine wg_if_eq dX9_readsTwo_24 rfl (fun c9 => ?_) (fun c9 => ?_)
      · replace h := h.1 c9
        refine wg_iconst dX9_readsTwo_31 qiconst_0 ?_
        exact wp_zret rfl dX9_readsTwo_32 ⟨Nat.le_refl _, Nat.le_refl _⟩ (Or.inl rfl) h
      · replace h := h.2 c9
        refine wg_iconst dX9_readsTwo_27 qiconst_1 ?_
        refine wg_goto dX9_readsTwo_28 rfl ?_
        exact wp_zret rfl dX9_readsTwo_32 ⟨Nat.le_refl _, Nat.le_refl _⟩ (Or.inr rfl) h
set_option maxRecDepth 100000 in
theorem bX9_readsChange_0 {G : GG} {d : Nat} {M : MM} {Q : Option AV → MM → Prop} (hS : ShM M) (h :
R32 ((gI M 96 19) - 1) ∧
(R32 ((gI M 96 19) - 1) ∧
(Ok G mX9_readsTwo d 0 0 [vR 96, vI ((gI M 96 19) - 1), vI 0, vI ((gI M 96 19) - 1)] M (fun v M1 => ∃ r2 : Int, v = some (vI r2) ∧ ShM M1 ∧ 
((r2 = 0 →
(Q (some (vI 0)) M1)) ∧
(¬ (r2 = 0) →
(((((gI M1 106 0) = (gI M1 106 1) →
(Q (some (vI 0)) M1)) ∧
(¬ ((gI M1 106 0) = (gI M1 106 1)) →
(Ok G mX9_readsComma d 0 0 [vR 96] M1 (fun v M5 => ∃ r6 : Int, v = some (vI r6) ∧ ShM M5 ∧ 
((r6 = 0 →
(Q (some (vI 0)) M5)) ∧
(¬ (r6 = 0) →
(Ok G mX9_reads d 0 0 [vR 96, vI 2, vI 1, vI 9] M5 (fun v M8 => ∃ r9 : Int, v = some (vI r9) ∧ ShM M8 ∧ 
((r9 = 0 →
(Q (some (vI 0)) M8)) ∧
(¬ (r9 = 0) →
(Ok G mX9_readsComma d 0 0 [vR 96] M8 (fun v M11 => ∃ r12 : Int, v = some (vI r12) ∧ ShM M11 ∧ 
((r12 = 0 →
(Q (some (vI 0)) M11)) ∧
(¬ (r12 = 0) →
(Ok G mX9_reads d 0 0 [vR 96, vI 3, vI 1, vI 9] M11 (fun v M14 => ∃ r15 : Int, v = some (vI r15) ∧ ShM M14 ∧ 
((r15 = 0 →
(Q (some (vI 0)) M14)) ∧
(¬ (r15 = 0) →
(Q (some (vI 1)) M14))))))))))))))))))))))))))) :
  Wp G mX9_readsChange (d + 1) 0 0 0 [some (vR 96)] [] M 0 0 Q := by
  refine wg_aload_n dX9_readsChange_0 rfl (Nat.succ_ne_zero _) ?_
  refine wg_aload_n dX9_readsChange_1 rfl (Nat.succ_ne_zero _) ?_
  refine wg_getI dX9_readsChange_2 (fl_X9_129 rfl) rfl rfl ?_
  refine wg_iconst dX9_readsChange_5 qiconst_1 ?_
  obtain ⟨o, h⟩ := h
  refine wg_isub dX9_readsChange_6 o ?_
  refine wg_iconst dX9_readsChange_7 qiconst_0 ?_
  refine wg_aload_n dX9_readsChange_8 rfl (Nat.succ_ne_zero _) ?_
  refine wg_getI dX9_readsChange_9 (fl_X9_129 rfl) rfl rfl ?_
  refine wg_iconst dX9_readsChange_12 qiconst_1 ?_
  obtain ⟨o, h⟩ := h
  refine wg_isub dX9_readsChange_13 o ?_
  refine wg_callV (I' := mX9_readsTwo) (ci := 9) (np := 3) (d' := d) (q := 96) (as := [vI ((gI M 96 19) - 1), vI 0, vI ((gI M 96 19) - 1)]) (st := []) dX9_readsChange_14 lk_X9_132 ci_X9_readsTwo rfl (Nat.le_of_ble_eq_true rfl) rfl rfl (Nat.le_of_ble_eq_true rfl) rfl (Nat.le_refl _) ⟨Nat.le_refl _, Nat.le_refl _⟩ h (fun v M1 h => ?_)
  obtain ⟨r2, rfl, hS, h⟩ := h
  refine wg_if_eq dX9_readsChange_17 rfl (fun c3 => ?_) (fun c3 => ?_)
  · replace h := h.1 c3
    refine wg_iconst dX9_readsChange_75 qiconst_0 ?_
    exact wp_zret rfl dX9_readsChange_76 ⟨Nat.le_refl _, Nat.le_refl _⟩ (Or.inl rfl) h
  · replace h := h.2 c3
    refine wg_aload_n dX9_readsChange_20 rfl (Nat.succ_ne_zero _) ?_
    refine wg_getRe dX9_readsChange_21 (fl_X9_37 rfl) rfl rfl (sm18 hS) ?_
    refine wg_iconst dX9_readsChange_24 qiconst_0 ?_
    refine wg_iald dX9_readsChange_25 rfl (by decide) (by decide) ?_
    refine wg_aload_n dX9_readsChange_26 rfl (Nat.succ_ne_zero _) ?_
    refine wg_getRe dX9_readsChange_27 (fl_X9_37 rfl) rfl rfl (sm18 hS) ?_
    refine wg_iconst dX9_readsChange_30 qiconst_1 ?_
    refine wg_iald dX9_readsChange_31 rfl (by decide) (by decide) ?_
    refine wg_icmp_eq dX9_readsChange_32 rfl (fun c4 => ?_) (fun c4 => ?_)
    · replace h := h.1 c4
      refine wg_iconst dX9_readsChange_75 qiconst_0 ?_
      exact wp_zret rfl dX9_readsChange_76 ⟨Nat.le_refl _, Nat.le_refl _⟩ (Or.inl rfl) h
    · replace h := h.2 c4
      refine wg_aload_n dX9_readsChange_35 rfl (Nat.succ_ne_zero _) ?_
      refine wg_callV (I' := mX9_readsComma) (ci := 9) (np := 0) (d' := d) (q := 96) (as := []) (st := []) dX9_readsChange_36 lk_X9_125 ci_X9_readsComma rfl (Nat.le_of_ble_eq_true rfl) rfl rfl (Nat.le_of_ble_eq_true rfl) rfl (Nat.le_refl _) ⟨Nat.le_refl _, Nat.le_refl _⟩ h (fun v M5 h => ?_)
      obtain ⟨r6, rfl, hS, h⟩ := h
      refine wg_if_eq dX9_readsChange_39 rfl (fun c7 => ?_) (fun c7 => ?_)
      · replace h := h.1 c7
        refine wg_iconst dX9_readsChange_75 qiconst_0 ?_
        exact wp_zret rfl dX9_readsChange_76 ⟨Nat.le_refl _, Nat.le_refl _⟩ (Or.inl rfl) h
      · replace h := h.2 c7
        refine wg_aload_n dX9_readsChange_42 rfl (Nat.succ_ne_zero _) ?_
        refine wg_iconst dX9_readsChange_43 qiconst_2 ?_
        refine wg_iconst dX9_readsChange_44 qiconst_1 ?_
        refine wg_bipush dX9_readsChange_45 qbipush_9 ?_
        refine wg_callV (I' := mX9_reads) (ci := 9) (np := 3) (d' := d) (q := 96) (as := [vI 2, vI 1, vI 9]) (st := []) dX9_readsChange_47 lk_X9_121 ci_X9_reads rfl (Nat.le_of_ble_eq_true rfl) rfl rfl (Nat.le_of_ble_eq_true rfl) rfl (Nat.le_refl _) ⟨Nat.le_refl _, Nat.le_refl _⟩ h (fun v M8 h => ?_)
        obtain ⟨r9, rfl, hS, h⟩ := h
        refine wg_if_eq dX9_readsChange_50 rfl (fun c10 => ?_) (fun c10 => ?_)
        · replace h := h.1 c10
          refine wg_iconst dX9_readsChange_75 qiconst_0 ?_
          exact wp_zret rfl dX9_readsChange_76 ⟨Nat.le_refl _, Nat.le_refl _⟩ (Or.inl rfl) h
        · replace h := h.2 c10
          refine wg_aload_n dX9_readsChange_53 rfl (Nat.succ_ne_zero _) ?_
          refine wg_callV (I' := mX9_readsComma) (ci := 9) (np := 0) (d' := d) (q := 96) (as := []) (st := []) dX9_readsChange_54 lk_X9_125 ci_X9_readsComma rfl (Nat.le_of_ble_eq_true rfl) rfl rfl (Nat.le_of_ble_eq_true rfl) rfl (Nat.le_refl _) ⟨Nat.le_refl _, Nat.le_refl _⟩ h (fun v M11 h => ?_)
          obtain ⟨r12, rfl, hS, h⟩ := h
          refine wg_if_eq dX9_readsChange_57 rfl (fun c13 => ?_) (fun c13 => ?_)
          · replace h := h.1 c13
            refine wg_iconst dX9_readsChange_75 qiconst_0 ?_
            exact wp_zret rfl dX9_readsChange_76 ⟨Nat.le_refl _, Nat.le_refl _⟩ (Or.inl rfl) h
          · replace h := h.2 c13
            refine wg_aload_n dX9_readsChange_60 rfl (Nat.succ_ne_zero _) ?_
            refine wg_iconst dX9_readsChange_61 qiconst_3 ?_
            refine wg_iconst dX9_readsChange_62 qiconst_1 ?_
            refine wg_bipush dX9_readsChange_63 qbipush_9 ?_
            refine wg_callV (I' := mX9_reads) (ci := 9) (np := 3) (d' := d) (q := 96) (as := [vI 3, vI 1, vI 9]) (st := []) dX9_readsChange_65 lk_X9_121 ci_X9_reads rfl (Nat.le_of_ble_eq_true rfl) rfl rfl (Nat.le_of_ble_eq_true rfl) rfl (Nat.le_refl _) ⟨Nat.le_refl _, Nat.le_refl _⟩ h (fun v M14 h => ?_)
            obtain ⟨r15, rfl, hS, h⟩ := h
            refine wg_if_eq dX9_readsChange_68 rfl (fun c16 => ?_) (fun c16 => ?_)
            · replace h := h.1 c16
              refine wg_iconst dX9_readsChange_75 qiconst_0 ?_
              exact wp_zret rfl dX9_readsChange_76 ⟨Nat.le_refl _, Nat.le_refl _⟩ (Or.inl rfl) h
            · replace h := h.2 c16
              refine wg_iconst dX9_readsChange_71 qiconst_1 ?_
              refine wg_goto dX9_readsChange_72 rfl ?_
              exact wp_zret rfl dX9_readsChange_76 ⟨Nat.le_refl _, Nat.le_refl _⟩ (Or.inr rfl) h
set_option maxRecDepth 100000 in
theorem bX9_readsNumbers_0 {G : GG} {d : Nat} {M : MM} {Q : Option AV → MM → Prop} (a1 : Int) (hS : ShM M) (h :
(a1 = 98 →
((4 ≤ (gI M 96 22) →
(Q (some (vI 0)) M)) ∧
(¬ (4 ≤ (gI M 96 22)) →
(Ok G mX9_reads d 0 0 [vR 96, vI 0, vI 1, vI 90] M (fun v M2 => ∃ r3 : Int, v = some (vI r3) ∧ ShM M2 ∧ 
((r3 = 0 →
(Q (some (vI 0)) M2)) ∧
(¬ (r3 = 0) →
(Q (some (vI 1)) M2)))))))) ∧
(a1 = 112 →
((8 ≤ (gI M 96 21) →
(Q (some (vI 0)) M)) ∧
(¬ (8 ≤ (gI M 96 21)) →
(R32 ((gI M 96 19) - 1) ∧
(Ok G mX9_readsTwo d 0 0 [vR 96, vI ((gI M 96 19) - 1), vI 1, vI 9] M (fun v M6 => ∃ r7 : Int, v = some (vI r7) ∧ ShM M6 ∧ 
((r7 = 0 →
(Q (some (vI 0)) M6)) ∧
(¬ (r7 = 0) →
(Q (some (vI 1)) M6))))))))) ∧
(a1 = 116 →
((10 ≤ (gI M 96 19) →
(Q (some (vI 0)) M)) ∧
(¬ (10 ≤ (gI M 96 19)) →
(Ok G mX9_readsTwo d 0 0 [vR 96, vI 20, vI 0, vI 3] M (fun v M10 => ∃ r11 : Int, v = some (vI r11) ∧ ShM M10 ∧ 
((r11 = 0 →
(Q (some (vI 0)) M10)) ∧
(¬ (r11 = 0) →
(Q (some (vI 1)) M10)))))))) ∧
(a1 = 120 →
((6 ≤ (gI M 96 23) →
(Q (some (vI 0)) M)) ∧
(¬ (6 ≤ (gI M 96 23)) →
(Ok G mX9_readsChange d 0 0 [vR 96] M (fun v M14 => ∃ r15 : Int, v = some (vI r15) ∧ ShM M14 ∧ 
((r15 = 0 →
(Q (some (vI 0)) M14)) ∧
(¬ (r15 = 0) →
(Q (some (vI 1)) M14)))))))) ∧
(a1 = 121 →
((12 ≤ (gI M 96 20) →
(Q (some (vI 0)) M)) ∧
(¬ (12 ≤ (gI M 96 20)) →
(R32 ((gI M 96 19) - 1) ∧
(R32 ((gI M 96 19) - 1) ∧
(Ok G mX9_readsTwo d 0 0 [vR 96, vI ((gI M 96 19) - 1), vI 0, vI ((gI M 96 19) - 1)] M (fun v M18 => ∃ r19 : Int, v = some (vI r19) ∧ ShM M18 ∧ 
((r19 = 0 →
(Q (some (vI 0)) M18)) ∧
(¬ (r19 = 0) →
(((((gI M18 106 0) = (gI M18 106 1) →
(Q (some (vI 0)) M18)) ∧
(¬ ((gI M18 106 0) = (gI M18 106 1)) →
(Q (some (vI 1)) M18)))))))))))))) ∧
((¬ a1 = 98 ∧ ¬ a1 = 112 ∧ ¬ a1 = 116 ∧ ¬ a1 = 120 ∧ ¬ a1 = 121) →
(Q (some (vI 0)) M))) :
  Wp G mX9_readsNumbers (d + 1) 0 0 0 [some (vR 96), some (vI a1)] [] M 0 0 Q := by
  refine wg_iload_n dX9_readsNumbers_0 rfl ?_
  by_cases c0 : a1 = 98
  · replace h := h.1 c0
    refine wg_lookup dX9_readsNumbers_1 (by decide) (off := 158) (by rw [c0]; decide) rfl ?_
    refine wg_aload_n dX9_readsNumbers_159 rfl (Nat.succ_ne_zero _) ?_
    refine wg_getI dX9_readsNumbers_160 (fl_X9_141 rfl) rfl rfl ?_
    refine wg_iconst dX9_readsNumbers_163 qiconst_4 ?_
    refine wg_icmp_ge dX9_readsNumbers_164 rfl (fun c1 => ?_) (fun c1 => ?_)
    · replace h := h.1 c1
      refine wg_iconst dX9_readsNumbers_182 qiconst_0 ?_
      exact wp_zret rfl dX9_readsNumbers_183 ⟨Nat.le_refl _, Nat.le_refl _⟩ (Or.inl rfl) h
    · replace h := h.2 c1
      refine wg_aload_n dX9_readsNumbers_167 rfl (Nat.succ_ne_zero _) ?_
      refine wg_iconst dX9_readsNumbers_168 qiconst_0 ?_
      refine wg_iconst dX9_readsNumbers_169 qiconst_1 ?_
      refine wg_bipush dX9_readsNumbers_170 qbipush_90 ?_
      refine wg_callV (I' := mX9_reads) (ci := 9) (np := 3) (d' := d) (q := 96) (as := [vI 0, vI 1, vI 90]) (st := []) dX9_readsNumbers_172 lk_X9_121 ci_X9_reads rfl (Nat.le_of_ble_eq_true rfl) rfl rfl (Nat.le_of_ble_eq_true rfl) rfl (Nat.le_refl _) ⟨Nat.le_refl _, Nat.le_refl _⟩ h (fun v M2 h => ?_)
      obtain ⟨r3, rfl, hS, h⟩ := h
      refine wg_if_eq dX9_readsNumbers_175 rfl (fun c4 => ?_) (fun c4 => ?_)
      · replace h := h.1 c4
        refine wg_iconst dX9_readsNumbers_182 qiconst_0 ?_
        exact wp_zret rfl dX9_readsNumbers_183 ⟨Nat.le_refl _, Nat.le_refl _⟩ (Or.inl rfl) h
      · replace h := h.2 c4
        refine wg_iconst dX9_readsNumbers_178 qiconst_1 ?_
        refine wg_goto dX9_readsNumbers_179 rfl ?_
        exact wp_zret rfl dX9_readsNumbers_183 ⟨Nat.le_refl _, Nat.le_refl _⟩ (Or.inr rfl) h
  by_cases c1 : a1 = 112
  · replace h := h.2.1 c1
    refine wg_lookup dX9_readsNumbers_1 (by decide) (off := 127) (by rw [c1]; decide) rfl ?_
    refine wg_aload_n dX9_readsNumbers_128 rfl (Nat.succ_ne_zero _) ?_
    refine wg_getI dX9_readsNumbers_129 (fl_X9_138 rfl) rfl rfl ?_
    refine wg_bipush dX9_readsNumbers_132 qbipush_8 ?_
    refine wg_icmp_ge dX9_readsNumbers_134 rfl (fun c5 => ?_) (fun c5 => ?_)
    · replace h := h.1 c5
      refine wg_iconst dX9_readsNumbers_157 qiconst_0 ?_
      exact wp_zret rfl dX9_readsNumbers_158 ⟨Nat.le_refl _, Nat.le_refl _⟩ (Or.inl rfl) h
    · replace h := h.2 c5
      refine wg_aload_n dX9_readsNumbers_137 rfl (Nat.succ_ne_zero _) ?_
      refine wg_aload_n dX9_readsNumbers_138 rfl (Nat.succ_ne_zero _) ?_
      refine wg_getI dX9_readsNumbers_139 (fl_X9_129 rfl) rfl rfl ?_
      refine wg_iconst dX9_readsNumbers_142 qiconst_1 ?_
      obtain ⟨o, h⟩ := h
      refine wg_isub dX9_readsNumbers_143 o ?_
      refine wg_iconst dX9_readsNumbers_144 qiconst_1 ?_
      refine wg_bipush dX9_readsNumbers_145 qbipush_9 ?_
      refine wg_callV (I' := mX9_readsTwo) (ci := 9) (np := 3) (d' := d) (q := 96) (as := [vI ((gI M 96 19) - 1), vI 1, vI 9]) (st := []) dX9_readsNumbers_147 lk_X9_132 ci_X9_readsTwo rfl (Nat.le_of_ble_eq_true rfl) rfl rfl (Nat.le_of_ble_eq_true rfl) rfl (Nat.le_refl _) ⟨Nat.le_refl _, Nat.le_refl _⟩ h (fun v M6 h => ?_)
      obtain ⟨r7, rfl, hS, h⟩ := h
      refine wg_if_eq dX9_readsNumbers_150 rfl (fun c8 => ?_) (fun c8 => ?_)
      · replace h := h.1 c8
        refine wg_iconst dX9_readsNumbers_157 qiconst_0 ?_
        exact wp_zret rfl dX9_readsNumbers_158 ⟨Nat.le_refl _, Nat.le_refl _⟩ (Or.inl rfl) h
      · replace h := h.2 c8
        refine wg_iconst dX9_readsNumbers_153 qiconst_1 ?_
        refine wg_goto dX9_readsNumbers_154 rfl ?_
        exact wp_zret rfl dX9_readsNumbers_158 ⟨Nat.le_refl _, Nat.le_refl _⟩ (Or.inr rfl) h
  by_cases c2 : a1 = 116
  · replace h := h.2.2.1 c2
    refine wg_lookup dX9_readsNumbers_1 (by decide) (off := 51) (by rw [c2]; decide) rfl ?_
    refine wg_aload_n dX9_readsNumbers_52 rfl (Nat.succ_ne_zero _) ?_
    refine wg_getI dX9_readsNumbers_53 (fl_X9_129 rfl) rfl rfl ?_
    refine wg_bipush dX9_readsNumbers_56 qbipush_10 ?_
    refine wg_icmp_ge dX9_readsNumbers_58 rfl (fun c9 => ?_) (fun c9 => ?_)
    · replace h := h.1 c9
      refine wg_iconst dX9_readsNumbers_76 qiconst_0 ?_
      exact wp_zret rfl dX9_readsNumbers_77 ⟨Nat.le_refl _, Nat.le_refl _⟩ (Or.inl rfl) h
    · replace h := h.2 c9
      refine wg_aload_n dX9_readsNumbers_61 rfl (Nat.succ_ne_zero _) ?_
      refine wg_bipush dX9_readsNumbers_62 qbipush_20 ?_
      refine wg_iconst dX9_readsNumbers_64 qiconst_0 ?_
      refine wg_iconst dX9_readsNumbers_65 qiconst_3 ?_
      refine wg_callV (I' := mX9_readsTwo) (ci := 9) (np := 3) (d' := d) (q := 96) (as := [vI 20, vI 0, vI 3]) (st := []) dX9_readsNumbers_66 lk_X9_132 ci_X9_readsTwo rfl (Nat.le_of_ble_eq_true rfl) rfl rfl (Nat.le_of_ble_eq_true rfl) rfl (Nat.le_refl _) ⟨Nat.le_refl _, Nat.le_refl _⟩ h (fun v M10 h => ?_)
      obtain ⟨r11, rfl, hS, h⟩ := h
      refine wg_if_eq dX9_readsNumbers_69 rfl (fun c12 => ?_) (fun c12 => ?_)
      · replace h := h.1 c12
        refine wg_iconst dX9_readsNumbers_76 qiconst_0 ?_
        exact wp_zret rfl dX9_readsNumbers_77 ⟨Nat.le_refl _, Nat.le_refl _⟩ (Or.inl rfl) h
      · replace h := h.2 c12
        refine wg_iconst dX9_readsNumbers_72 qiconst_1 ?_
        refine wg_goto dX9_readsNumbers_73 rfl ?_
        exact wp_zret rfl dX9_readsNumbers_77 ⟨Nat.le_refl _, Nat.le_refl _⟩ (Or.inr rfl) h
  by_cases c3 : a1 = 120
  · replace h := h.2.2.2.1 c3
    refine wg_lookup dX9_readsNumbers_1 (by decide) (off := 183) (by rw [c3]; decide) rfl ?_
    refine wg_aload_n dX9_readsNumbers_184 rfl (Nat.succ_ne_zero _) ?_
    refine wg_getI dX9_readsNumbers_185 (fl_X9_144 rfl) rfl rfl ?_
    refine wg_bipush dX9_readsNumbers_188 qbipush_6 ?_
    refine wg_icmp_ge dX9_readsNumbers_190 rfl (fun c13 => ?_) (fun c13 => ?_)
    · replace h := h.1 c13
      refine wg_iconst dX9_readsNumbers_204 qiconst_0 ?_
      exact wp_zret rfl dX9_readsNumbers_205 ⟨Nat.le_refl _, Nat.le_refl _⟩ (Or.inl rfl) h
    · replace h := h.2 c13
      refine wg_aload_n dX9_readsNumbers_193 rfl (Nat.succ_ne_zero _) ?_
      refine wg_callV (I' := mX9_readsChange) (ci := 9) (np := 0) (d' := d) (q := 96) (as := []) (st := []) dX9_readsNumbers_194 lk_X9_147 ci_X9_readsChange rfl (Nat.le_of_ble_eq_true rfl) rfl rfl (Nat.le_of_ble_eq_true rfl) rfl (Nat.le_refl _) ⟨Nat.le_refl _, Nat.le_refl _⟩ h (fun v M14 h => ?_)
      obtain ⟨r15, rfl, hS, h⟩ := h
      refine wg_if_eq dX9_readsNumbers_197 rfl (fun c16 => ?_) (fun c16 => ?_)
      · replace h := h.1 c16
        refine wg_iconst dX9_readsNumbers_204 qiconst_0 ?_
        exact wp_zret rfl dX9_readsNumbers_205 ⟨Nat.le_refl _, Nat.le_refl _⟩ (Or.inl rfl) h
      · replace h := h.2 c16
        refine wg_iconst dX9_readsNumbers_200 qiconst_1 ?_
        refine wg_goto dX9_readsNumbers_201 rfl ?_
        exact wp_zret rfl dX9_readsNumbers_205 ⟨Nat.le_refl _, Nat.le_refl _⟩ (Or.inr rfl) h
  by_cases c4 : a1 = 121
  · replace h := h.2.2.2.2.1 c4
    refine wg_lookup dX9_readsNumbers_1 (by decide) (off := 77) (by rw [c4]; decide) rfl ?_
    refine wg_aload_n dX9_readsNumbers_78 rfl (Nat.succ_ne_zero _) ?_
    refine wg_getI dX9_readsNumbers_79 (fl_X9_135 rfl) rfl rfl ?_
    refine wg_bipush dX9_readsNumbers_82 qbipush_12 ?_
    refine wg_icmp_ge dX9_readsNumbers_84 rfl (fun c17 => ?_) (fun c17 => ?_)
    · replace h := h.1 c17
      refine wg_iconst dX9_readsNumbers_126 qiconst_0 ?_
      exact wp_zret rfl dX9_readsNumbers_127 ⟨Nat.le_refl _, Nat.le_refl _⟩ (Or.inl rfl) h
    · replace h := h.2 c17
      refine wg_aload_n dX9_readsNumbers_87 rfl (Nat.succ_ne_zero _) ?_
      refine wg_aload_n dX9_readsNumbers_88 rfl (Nat.succ_ne_zero _) ?_
      refine wg_getI dX9_readsNumbers_89 (fl_X9_129 rfl) rfl rfl ?_
      refine wg_iconst dX9_readsNumbers_92 qiconst_1 ?_
      obtain ⟨o, h⟩ := h
      refine wg_isub dX9_readsNumbers_93 o ?_
      refine wg_iconst dX9_readsNumbers_94 qiconst_0 ?_
      refine wg_aload_n dX9_readsNumbers_95 rfl (Nat.succ_ne_zero _) ?_
      refine wg_getI dX9_readsNumbers_96 (fl_X9_129 rfl) rfl rfl ?_
      refine wg_iconst dX9_readsNumbers_99 qiconst_1 ?_
      obtain ⟨o, h⟩ := h
      refine wg_isub dX9_readsNumbers_100 o ?_
      refine wg_callV (I' := mX9_readsTwo) (ci := 9) (np := 3) (d' := d) (q := 96) (as := [vI ((gI M 96 19) - 1), vI 0, vI ((gI M 96 19) - 1)]) (st := []) dX9_readsNumbers_101 lk_X9_132 ci_X9_readsTwo rfl (Nat.le_of_ble_eq_true rfl) rfl rfl (Nat.le_of_ble_eq_true rfl) rfl (Nat.le_refl _) ⟨Nat.le_refl _, Nat.le_refl _⟩ h (fun v M18 h => ?_)
      obtain ⟨r19, rfl, hS, h⟩ := h
      refine wg_if_eq dX9_readsNumbers_104 rfl (fun c20 => ?_) (fun c20 => ?_)
      · replace h := h.1 c20
        refine wg_iconst dX9_readsNumbers_126 qiconst_0 ?_
        exact wp_zret rfl dX9_readsNumbers_127 ⟨Nat.le_refl _, Nat.le_refl _⟩ (Or.inl rfl) h
      · replace h := h.2 c20
        refine wg_aload_n dX9_readsNumbers_107 rfl (Nat.succ_ne_zero _) ?_
        refine wg_getRe dX9_readsNumbers_108 (fl_X9_37 rfl) rfl rfl (sm18 hS) ?_
        refine wg_iconst dX9_readsNumbers_111 qiconst_0 ?_
        refine wg_iald dX9_readsNumbers_112 rfl (by decide) (by decide) ?_
        refine wg_aload_n dX9_readsNumbers_113 rfl (Nat.succ_ne_zero _) ?_
        refine wg_getRe dX9_readsNumbers_114 (fl_X9_37 rfl) rfl rfl (sm18 hS) ?_
        refine wg_iconst dX9_readsNumbers_117 qiconst_1 ?_
        refine wg_iald dX9_readsNumbers_118 rfl (by decide) (by decide) ?_
        refine wg_icmp_eq dX9_readsNumbers_119 rfl (fun c21 => ?_) (fun c21 => ?_)
        · replace h := h.1 c21
          refine wg_iconst dX9_readsNumbers_126 qiconst_0 ?_
          exact wp_zret rfl dX9_readsNumbers_127 ⟨Nat.le_refl _, Nat.le_refl _⟩ (Or.inl rfl) h
        · replace h := h.2 c21
          refine wg_iconst dX9_readsNumbers_122 qiconst_1 ?_
          refine wg_goto dX9_readsNumbers_123 rfl ?_
          exact wp_zret rfl dX9_readsNumbers_127 ⟨Nat.le_refl _, Nat.le_refl _⟩ (Or.inr rfl) h
  replace h := h.2.2.2.2.2 ⟨c0, c1, c2, c3, c4⟩
  refine wg_lookup dX9_readsNumbers_1 (by decide) (off := 205) (off_none (fun q hq => by simp only [List.mem_cons, List.not_mem_nil, or_false] at hq; rcases hq with rfl | rfl | rfl | rfl | rfl <;> assumption)) rfl ?_
  refine wg_iconst dX9_readsNumbers_206 qiconst_0 ?_
  exact wp_zret rfl dX9_readsNumbers_207 ⟨Nat.le_refl _, Nat.le_refl _⟩ (Or.inl rfl) h
set_option maxRecDepth 100000 in
theorem bX9_readsItem_0 {G : GG} {d : Nat} {M : MM} {Q : Option AV → MM → Prop} (hS : ShM M) (h :
((0 : Int) ≤ gI M 96 17 ∧ (gI M 96 17 : Int) < 200) ∧
(R32 ((gI M 96 17) + 1) ∧
(∀ M2 : MM, M2 = stI M 96 17 ((gI M 96 17) + 1) →
(Ok G mX9_readsNumbers d 0 0 [vR 96, vI (gI M 98 (gI M 96 17).toNat)] M2 (fun v M3 => ∃ r4 : Int, v = some (vI r4) ∧ ShM M3 ∧ 
((r4 = 0 →
(Q (some (vI (-4))) M3)) ∧
(¬ (r4 = 0) →
(Ok G mX9_isThere d 0 0 [vR 96, vI 59] M3 (fun v M6 => ∃ r7 : Int, v = some (vI r7) ∧ ShM M6 ∧ 
((r7 ≠ 0 →
(R32 ((gI M6 96 17) + 1) ∧
(∀ M9 : MM, M9 = stI M6 96 17 ((gI M6 96 17) + 1) →
(((gI M 98 (gI M 96 17).toNat) ≠ 116 →
(Wp G mX9_readsItem (d + 1) 0 0 66 [some (vR 96), some (vI (gI M 98 (gI M 96 17).toNat))] [vI 0, vI (gI M9 96 19), vR 96] M9 0 0 Q)) ∧
((gI M 98 (gI M 96 17).toNat) = 116 →
(Wp G mX9_readsItem (d + 1) 0 0 66 [some (vR 96), some (vI (gI M 98 (gI M 96 17).toNat))] [vI 1, vI (gI M9 96 19), vR 96] M9 0 0 Q)))))) ∧
(r7 = 0 →
(Q (some (vI (-4))) M6)))))))))))) :
  Wp G mX9_readsItem (d + 1) 0 0 0 [some (vR 96), none] [] M 0 0 Q := by
  refine wg_aload_n dX9_readsItem_0 rfl (Nat.succ_ne_zero _) ?_
  refine wg_getRe dX9_readsItem_1 (fl_X9_13 rfl) rfl rfl (sm3 hS) ?_
  refine wg_aload_n dX9_readsItem_4 rfl (Nat.succ_ne_zero _) ?_
  refine wg_getI dX9_readsItem_5 (fl_X9_111 rfl) rfl rfl ?_
  obtain ⟨o1, h⟩ := h
  refine wg_iald dX9_readsItem_8 rfl o1.1 o1.2 ?_
  refine wg_istore_n (L' := [some (vR 96), some (vI (gI M 98 (gI M 96 17).toNat))]) dX9_readsItem_9 (Nat.le_of_ble_eq_true rfl) rfl ?_
  refine wg_aload_n dX9_readsItem_10 rfl (Nat.succ_ne_zero _) ?_
  refine wg_dup dX9_readsItem_11 rfl ?_
  refine wg_getI dX9_readsItem_12 (fl_X9_111 rfl) rfl rfl ?_
  refine wg_iconst dX9_readsItem_15 qiconst_1 ?_
  obtain ⟨o, h⟩ := h
  refine wg_iadd dX9_readsItem_16 o ?_
  refine wg_putI dX9_readsItem_17 (fl_X9_111 rfl) rfl rfl rfl ?_
  generalize hM : stI M 96 17 ((gI M 96 17) + 1) = M2
  replace h := h _ hM.symm
  replace hS : ShM M2 := by rw [← hM]; exact hS
  clear hM
  refine wg_aload_n dX9_readsItem_20 rfl (Nat.succ_ne_zero _) ?_
  refine wg_iload_n dX9_readsItem_21 rfl ?_
  refine wg_callV (I' := mX9_readsNumbers) (ci := 9) (np := 1) (d' := d) (q := 96) (as := [vI (gI M 98 (gI M 96 17).toNat)]) (st := []) dX9_readsItem_22 lk_X9_150 ci_X9_readsNumbers rfl (Nat.le_of_ble_eq_true rfl) rfl rfl (Nat.le_of_ble_eq_true rfl) rfl (Nat.le_refl _) ⟨Nat.le_refl _, Nat.le_refl _⟩ h (fun v M3 h => ?_)
  obtain ⟨r4, rfl, hS, h⟩ := h
  refine wg_if_eq dX9_readsItem_25 rfl (fun c5 => ?_) (fun c5 => ?_)
  · replace h := h.1 c5
    refine wg_bipush dX9_readsItem_37 qbipush_m4 ?_
    exact wp_iret rfl dX9_readsItem_39 ⟨Nat.le_refl _, Nat.le_refl _⟩ h
  · replace h := h.2 c5
    refine wg_aload_n dX9_readsItem_28 rfl (Nat.succ_ne_zero _) ?_
    refine wg_bipush dX9_readsItem_29 qbipush_59 ?_
    refine wg_callV (I' := mX9_isThere) (ci := 9) (np := 1) (d' := d) (q := 96) (as := [vI 59]) (st := []) dX9_readsItem_31 lk_X9_118 ci_X9_isThere rfl (Nat.le_of_ble_eq_true rfl) rfl rfl (Nat.le_of_ble_eq_true rfl) rfl (Nat.le_refl _) ⟨Nat.le_refl _, Nat.le_refl _⟩ h (fun v M6 h => ?_)
    obtain ⟨r7, rfl, hS, h⟩ := h
    refine wg_if_ne dX9_readsItem_34 rfl (fun c8 => ?_) (fun c8 => ?_)
    · replace h := h.1 c8
      refine wg_aload_n dX9_readsItem_40 rfl (Nat.succ_ne_zero _) ?_
      refine wg_dup dX9_readsItem_41 rfl ?_
      refine wg_getI dX9_readsItem_42 (fl_X9_111 rfl) rfl rfl ?_
      refine wg_iconst dX9_readsItem_45 qiconst_1 ?_
      obtain ⟨o, h⟩ := h
      refine wg_iadd dX9_readsItem_46 o ?_
      refine wg_putI dX9_readsItem_47 (fl_X9_111 rfl) rfl rfl rfl ?_
      generalize hM : stI M6 96 17 ((gI M6 96 17) + 1) = M9
      replace h := h _ hM.symm
      replace hS : ShM M9 := by rw [← hM]; exact hS
      clear hM
      refine wg_aload_n dX9_readsItem_50 rfl (Nat.succ_ne_zero _) ?_
      refine wg_dup dX9_readsItem_51 rfl ?_
      refine wg_getI dX9_readsItem_52 (fl_X9_129 rfl) rfl rfl ?_
      refine wg_iload_n dX9_readsItem_55 rfl ?_
      refine wg_bipush dX9_readsItem_56 qbipush_116 ?_
      refine wg_icmp_ne dX9_readsItem_58 rfl (fun c10 => ?_) (fun c10 => ?_)
      · replace h := h.1 c10
        refine wg_iconst dX9_readsItem_65 qiconst_0 ?_
        exact h
      · replace h := h.2 c10
        refine wg_iconst dX9_readsItem_61 qiconst_1 ?_
        refine wg_goto dX9_readsItem_62 rfl ?_
        exact h
    · replace h := h.2 c8
      refine wg_bipush dX9_readsItem_37 qbipush_m4 ?_
      exact wp_iret rfl dX9_readsItem_39 ⟨Nat.le_refl _, Nat.le_refl _⟩ h
set_option maxRecDepth 100000 in
theorem bX9_readsItem_66 {G : GG} {d : Nat} {M : MM} {Q : Option AV → MM → Prop} (s1 : Int) (t0 : Int) (t1 : Int) (hS : ShM M) (h :
R32 (t1 + t0) ∧
(∀ M1 : MM, M1 = stI M 96 19 (t1 + t0) →
((s1 ≠ 121 →
(Wp G mX9_readsItem (d + 1) 0 0 86 [some (vR 96), some (vI s1)] [vI 0, vI (gI M1 96 20), vR 96] M1 0 0 Q)) ∧
(s1 = 121 →
(Wp G mX9_readsItem (d + 1) 0 0 86 [some (vR 96), some (vI s1)] [vI 1, vI (gI M1 96 20), vR 96] M1 0 0 Q))))) :
  Wp G mX9_readsItem (d + 1) 0 0 66 [some (vR 96), some (vI s1)] [vI t0, vI t1, vR 96] M 0 0 Q := by
  obtain ⟨o, h⟩ := h
  refine wg_iadd dX9_readsItem_66 o ?_
  refine wg_putI dX9_readsItem_67 (fl_X9_129 rfl) rfl rfl rfl ?_
  generalize hM : stI M 96 19 (t1 + t0) = M1
  replace h := h _ hM.symm
  replace hS : ShM M1 := by rw [← hM]; exact hS
  clear hM
  refine wg_aload_n dX9_readsItem_70 rfl (Nat.succ_ne_zero _) ?_
  refine wg_dup dX9_readsItem_71 rfl ?_
  refine wg_getI dX9_readsItem_72 (fl_X9_135 rfl) rfl rfl ?_
  refine wg_iload_n dX9_readsItem_75 rfl ?_
  refine wg_bipush dX9_readsItem_76 qbipush_121 ?_
  refine wg_icmp_ne dX9_readsItem_78 rfl (fun c2 => ?_) (fun c2 => ?_)
  · replace h := h.1 c2
    refine wg_iconst dX9_readsItem_85 qiconst_0 ?_
    exact h
  · replace h := h.2 c2
    refine wg_iconst dX9_readsItem_81 qiconst_1 ?_
    refine wg_goto dX9_readsItem_82 rfl ?_
    exact h
set_option maxRecDepth 100000 in
theorem bX9_readsItem_86 {G : GG} {d : Nat} {M : MM} {Q : Option AV → MM → Prop} (s1 : Int) (t0 : Int) (t1 : Int) (hS : ShM M) (h :
R32 (t1 + t0) ∧
(∀ M1 : MM, M1 = stI M 96 20 (t1 + t0) →
((s1 ≠ 112 →
(Wp G mX9_readsItem (d + 1) 0 0 106 [some (vR 96), some (vI s1)] [vI 0, vI (gI M1 96 21), vR 96] M1 0 0 Q)) ∧
(s1 = 112 →
(Wp G mX9_readsItem (d + 1) 0 0 106 [some (vR 96), some (vI s1)] [vI 1, vI (gI M1 96 21), vR 96] M1 0 0 Q))))) :
  Wp G mX9_readsItem (d + 1) 0 0 86 [some (vR 96), some (vI s1)] [vI t0, vI t1, vR 96] M 0 0 Q := by
  obtain ⟨o, h⟩ := h
  refine wg_iadd dX9_readsItem_86 o ?_
  refine wg_putI dX9_readsItem_87 (fl_X9_135 rfl) rfl rfl rfl ?_
  generalize hM : stI M 96 20 (t1 + t0) = M1
  replace h := h _ hM.symm
  replace hS : ShM M1 := by rw [← hM]; exact hS
  clear hM
  refine wg_aload_n dX9_readsItem_90 rfl (Nat.succ_ne_zero _) ?_
  refine wg_dup dX9_readsItem_91 rfl ?_
  refine wg_getI dX9_readsItem_92 (fl_X9_138 rfl) rfl rfl ?_
  refine wg_iload_n dX9_readsItem_95 rfl ?_
  refine wg_bipush dX9_readsItem_96 qbipush_112 ?_
  refine wg_icmp_ne dX9_readsItem_98 rfl (fun c2 => ?_) (fun c2 => ?_)
  · replace h := h.1 c2
    refine wg_iconst dX9_readsItem_105 qiconst_0 ?_
    exact h
  · replace h := h.2 c2
    refine wg_iconst dX9_readsItem_101 qiconst_1 ?_
    refine wg_goto dX9_readsItem_102 rfl ?_
    exact h
set_option maxRecDepth 100000 in
theorem bX9_readsItem_106 {G : GG} {d : Nat} {M : MM} {Q : Option AV → MM → Prop} (s1 : Int) (t0 : Int) (t1 : Int) (hS : ShM M) (h :
R32 (t1 + t0) ∧
(∀ M1 : MM, M1 = stI M 96 21 (t1 + t0) →
((s1 ≠ 98 →
(Wp G mX9_readsItem (d + 1) 0 0 126 [some (vR 96), some (vI s1)] [vI 0, vI (gI M1 96 22), vR 96] M1 0 0 Q)) ∧
(s1 = 98 →
(Wp G mX9_readsItem (d + 1) 0 0 126 [some (vR 96), some (vI s1)] [vI 1, vI (gI M1 96 22), vR 96] M1 0 0 Q))))) :
  Wp G mX9_readsItem (d + 1) 0 0 106 [some (vR 96), some (vI s1)] [vI t0, vI t1, vR 96] M 0 0 Q := by
  obtain ⟨o, h⟩ := h
  refine wg_iadd dX9_readsItem_106 o ?_
  refine wg_putI dX9_readsItem_107 (fl_X9_138 rfl) rfl rfl rfl ?_
  generalize hM : stI M 96 21 (t1 + t0) = M1
  replace h := h _ hM.symm
  replace hS : ShM M1 := by rw [← hM]; exact hS
  clear hM
  refine wg_aload_n dX9_readsItem_110 rfl (Nat.succ_ne_zero _) ?_
  refine wg_dup dX9_readsItem_111 rfl ?_
  refine wg_getI dX9_readsItem_112 (fl_X9_141 rfl) rfl rfl ?_
  refine wg_iload_n dX9_readsItem_115 rfl ?_
  refine wg_bipush dX9_readsItem_116 qbipush_98 ?_
  refine wg_icmp_ne dX9_readsItem_118 rfl (fun c2 => ?_) (fun c2 => ?_)
  · replace h := h.1 c2
    refine wg_iconst dX9_readsItem_125 qiconst_0 ?_
    exact h
  · replace h := h.2 c2
    refine wg_iconst dX9_readsItem_121 qiconst_1 ?_
    refine wg_goto dX9_readsItem_122 rfl ?_
    exact h
set_option maxRecDepth 100000 in
theorem bX9_readsItem_126 {G : GG} {d : Nat} {M : MM} {Q : Option AV → MM → Prop} (s1 : Int) (t0 : Int) (t1 : Int) (hS : ShM M) (h :
R32 (t1 + t0) ∧
(∀ M1 : MM, M1 = stI M 96 22 (t1 + t0) →
((s1 ≠ 120 →
(Wp G mX9_readsItem (d + 1) 0 0 146 [none, some (vI s1)] [vI 0, vI (gI M1 96 23), vR 96] M1 0 0 Q)) ∧
(s1 = 120 →
(Wp G mX9_readsItem (d + 1) 0 0 146 [none, some (vI s1)] [vI 1, vI (gI M1 96 23), vR 96] M1 0 0 Q))))) :
  Wp G mX9_readsItem (d + 1) 0 0 126 [some (vR 96), some (vI s1)] [vI t0, vI t1, vR 96] M 0 0 Q := by
  obtain ⟨o, h⟩ := h
  refine wg_iadd dX9_readsItem_126 o ?_
  refine wg_putI dX9_readsItem_127 (fl_X9_141 rfl) rfl rfl rfl ?_
  generalize hM : stI M 96 22 (t1 + t0) = M1
  replace h := h _ hM.symm
  replace hS : ShM M1 := by rw [← hM]; exact hS
  clear hM
  refine wg_aload_n dX9_readsItem_130 rfl (Nat.succ_ne_zero _) ?_
  refine wg_dup dX9_readsItem_131 rfl ?_
  refine wg_getI dX9_readsItem_132 (fl_X9_144 rfl) rfl rfl ?_
  refine wg_iload_n dX9_readsItem_135 rfl ?_
  refine wg_bipush dX9_readsItem_136 qbipush_120 ?_
  refine wg_icmp_ne dX9_readsItem_138 rfl (fun c2 => ?_) (fun c2 => ?_)
  · replace h := h.1 c2
    refine wg_iconst dX9_readsItem_145 qiconst_0 ?_
    refine wg_weak [false, true] rfl ?_
    exact h
  · replace h := h.2 c2
    refine wg_iconst dX9_readsItem_141 qiconst_1 ?_
    refine wg_goto dX9_readsItem_142 rfl ?_
    refine wg_weak [false, true] rfl ?_
    exact h
set_option maxRecDepth 100000 in
theorem bX9_readsItem_146 {G : GG} {d : Nat} {M : MM} {Q : Option AV → MM → Prop} (s1 : Int) (t0 : Int) (t1 : Int) (hS : ShM M) (h :
R32 (t1 + t0) ∧
(∀ M1 : MM, M1 = stI M 96 23 (t1 + t0) →
(Q (some (vI s1)) M1))) :
  Wp G mX9_readsItem (d + 1) 0 0 146 [none, some (vI s1)] [vI t0, vI t1, vR 96] M 0 0 Q := by
  obtain ⟨o, h⟩ := h
  refine wg_iadd dX9_readsItem_146 o ?_
  refine wg_putI dX9_readsItem_147 (fl_X9_144 rfl) rfl rfl rfl ?_
  generalize hM : stI M 96 23 (t1 + t0) = M1
  replace h := h _ hM.symm
  replace hS : ShM M1 := by rw [← hM]; exact hS
  clear hM
  refine wg_iload_n dX9_readsItem_150 rfl ?_
  exact wp_iret rfl dX9_readsItem_151 ⟨Nat.le_refl _, Nat.le_refl _⟩ h
set_option maxRecDepth 100000 in
theorem bX9_beginToRead_0 {G : GG} {d : Nat} {M : MM} {Q : Option AV → MM → Prop} (hS : ShM M) (h :
∀ M1 : MM, M1 = stI M 96 17 0 →
(∀ M2 : MM, M2 = stI M1 96 19 0 →
(∀ M3 : MM, M3 = stI M2 96 20 0 →
(∀ M4 : MM, M4 = stI M3 96 21 0 →
(∀ M5 : MM, M5 = stI M4 96 22 0 →
(∀ M6 : MM, M6 = stI M5 96 23 0 →
(Q none M6))))))) :
  Wp G mX9_beginToRead d 0 0 0 [some (vR 96)] [] M 0 0 Q := by
  refine wg_aload_n dX9_beginToRead_0 rfl (Nat.succ_ne_zero _) ?_
  refine wg_iconst dX9_beginToRead_1 qiconst_0 ?_
  refine wg_putI dX9_beginToRead_2 (fl_X9_111 rfl) rfl rfl rfl ?_
  generalize hM : stI M 96 17 0 = M1
  replace h := h _ hM.symm
  replace hS : ShM M1 := by rw [← hM]; exact hS
  clear hM
  refine wg_aload_n dX9_beginToRead_5 rfl (Nat.succ_ne_zero _) ?_
  refine wg_iconst dX9_beginToRead_6 qiconst_0 ?_
  refine wg_putI dX9_beginToRead_7 (fl_X9_129 rfl) rfl rfl rfl ?_
  generalize hM : stI M1 96 19 0 = M2
  replace h := h _ hM.symm
  replace hS : ShM M2 := by rw [← hM]; exact hS
  clear hM
  refine wg_aload_n dX9_beginToRead_10 rfl (Nat.succ_ne_zero _) ?_
  refine wg_iconst dX9_beginToRead_11 qiconst_0 ?_
  refine wg_putI dX9_beginToRead_12 (fl_X9_135 rfl) rfl rfl rfl ?_
  generalize hM : stI M2 96 20 0 = M3
  replace h := h _ hM.symm
  replace hS : ShM M3 := by rw [← hM]; exact hS
  clear hM
  refine wg_aload_n dX9_beginToRead_15 rfl (Nat.succ_ne_zero _) ?_
  refine wg_iconst dX9_beginToRead_16 qiconst_0 ?_
  refine wg_putI dX9_beginToRead_17 (fl_X9_138 rfl) rfl rfl rfl ?_
  generalize hM : stI M3 96 21 0 = M4
  replace h := h _ hM.symm
  replace hS : ShM M4 := by rw [← hM]; exact hS
  clear hM
  refine wg_aload_n dX9_beginToRead_20 rfl (Nat.succ_ne_zero _) ?_
  refine wg_iconst dX9_beginToRead_21 qiconst_0 ?_
  refine wg_putI dX9_beginToRead_22 (fl_X9_141 rfl) rfl rfl rfl ?_
  generalize hM : stI M4 96 22 0 = M5
  replace h := h _ hM.symm
  replace hS : ShM M5 := by rw [← hM]; exact hS
  clear hM
  refine wg_aload_n dX9_beginToRead_25 rfl (Nat.succ_ne_zero _) ?_
  refine wg_iconst dX9_beginToRead_26 qiconst_0 ?_
  refine wg_putI dX9_beginToRead_27 (fl_X9_144 rfl) rfl rfl rfl ?_
  generalize hM : stI M5 96 23 0 = M6
  replace h := h _ hM.symm
  replace hS : ShM M6 := by rw [← hM]; exact hS
  clear hM
  exact wp_vret rfl dX9_beginToRead_30 ⟨Nat.le_refl _, Nat.le_refl _⟩ h
set_option maxRecDepth 100000 in
theorem bX9_fault_0 {G : GG} {d : Nat} {M : MM} {Q : Option AV → MM → Prop} (hS : ShM M) (h :
Ok G mX9_beginToRead d 0 0 [vR 96] M (fun v M1 => v = none ∧ ShM M1 ∧ 
(Wp G mX9_fault (d + 1) 0 0 4 [some (vR 96), none] [] M1 0 0 Q))) :
  Wp G mX9_fault (d + 1) 0 0 0 [some (vR 96), none] [] M 0 0 Q := by
  refine wg_aload_n dX9_fault_0 rfl (Nat.succ_ne_zero _) ?_
  refine wg_callV (I' := mX9_beginToRead) (ci := 9) (np := 0) (d' := d) (q := 96) (as := []) (st := []) dX9_fault_1 lk_X9_153 ci_X9_beginToRead rfl (Nat.le_of_ble_eq_true rfl) rfl rfl (Nat.le_of_ble_eq_true rfl) rfl (Nat.le_refl _) ⟨Nat.le_refl _, Nat.le_refl _⟩ h (fun v M1 h => ?_)
  obtain ⟨rfl, hS, h⟩ := h
  exact h
set_option maxRecDepth 100000 in
theorem bX9_fault_4 {G : GG} {d : Nat} {M : MM} {Q : Option AV → MM → Prop} (hS : ShM M) (h :
((gI M 96 4) ≤ (gI M 96 17) →
(Q (some (vI (-4))) M)) ∧
(¬ ((gI M 96 4) ≤ (gI M 96 17)) →
(Ok G mX9_readsItem d 0 0 [vR 96] M (fun v M2 => ∃ r3 : Int, v = some (vI r3) ∧ ShM M2 ∧ 
((r3 ≠ (-4) →
(Wp G mX9_fault (d + 1) 0 0 4 [some (vR 96), none] [] M2 0 0 Q)) ∧
(r3 = (-4) →
(Q (some (vI (gI M 96 17))) M2))))))) :
  Wp G mX9_fault (d + 1) 0 0 4 [some (vR 96), none] [] M 0 0 Q := by
  refine wg_aload_n dX9_fault_4 rfl (Nat.succ_ne_zero _) ?_
  refine wg_getI dX9_fault_5 (fl_X9_111 rfl) rfl rfl ?_
  refine wg_aload_n dX9_fault_8 rfl (Nat.succ_ne_zero _) ?_
  refine wg_getI dX9_fault_9 (fl_X9_104 rfl) rfl rfl ?_
  refine wg_icmp_ge dX9_fault_12 rfl (fun c1 => ?_) (fun c1 => ?_)
  · replace h := h.1 c1
    refine wg_bipush dX9_fault_34 qbipush_m4 ?_
    exact wp_iret rfl dX9_fault_36 ⟨Nat.le_refl _, Nat.le_refl _⟩ h
  · replace h := h.2 c1
    refine wg_aload_n dX9_fault_15 rfl (Nat.succ_ne_zero _) ?_
    refine wg_getI dX9_fault_16 (fl_X9_111 rfl) rfl rfl ?_
    refine wg_istore_n (L' := [some (vR 96), some (vI (gI M 96 17))]) dX9_fault_19 (Nat.le_of_ble_eq_true rfl) rfl ?_
    refine wg_aload_n dX9_fault_20 rfl (Nat.succ_ne_zero _) ?_
    refine wg_callV (I' := mX9_readsItem) (ci := 9) (np := 0) (d' := d) (q := 96) (as := []) (st := []) dX9_fault_21 lk_X9_156 ci_X9_readsItem rfl (Nat.le_of_ble_eq_true rfl) rfl rfl (Nat.le_of_ble_eq_true rfl) rfl (Nat.le_refl _) ⟨Nat.le_refl _, Nat.le_refl _⟩ h (fun v M2 h => ?_)
    obtain ⟨r3, rfl, hS, h⟩ := h
    refine wg_bipush dX9_fault_24 qbipush_m4 ?_
    refine wg_icmp_ne dX9_fault_26 rfl (fun c4 => ?_) (fun c4 => ?_)
    · replace h := h.1 c4
      refine wg_goto dX9_fault_31 rfl ?_
      refine wg_weak [true, false] rfl ?_
      exact h
    · replace h := h.2 c4
      refine wg_iload_n dX9_fault_29 rfl ?_
      exact wp_iret rfl dX9_fault_30 ⟨Nat.le_refl _, Nat.le_refl _⟩ h
set_option maxRecDepth 100000 in
theorem bX9_tell_0 {G : GG} {d : Nat} {M : MM} {Q : Option AV → MM → Prop} (a1 : Int) (hS : ShM M) (h :
(a1 = 98 →
((Ok G mX9_addBeast d 0 0 [vR 96, vI (gI M 106 0)] M (fun v M1 => v = none ∧ ShM M1 ∧ 
(Q none M1))))) ∧
(a1 = 112 →
(((Ok G mX9_addPerson d 0 0 [vR 96, vI (gI M 106 0), vI (gI M 106 1)] M (fun v M2 => v = none ∧ ShM M2 ∧ 
(Q none M2)))))) ∧
(a1 = 116 →
(((Ok G mX9_addThing d 0 0 [vR 96, vI (gI M 106 0), vI (gI M 106 1)] M (fun v M3 => v = none ∧ ShM M3 ∧ 
(Q none M3)))))) ∧
(a1 = 121 →
(((Ok G mX9_addNeed d 0 0 [vR 96, vI (gI M 106 0), vI (gI M 106 1)] M (fun v M4 => v = none ∧ ShM M4 ∧ 
(Q none M4)))))) ∧
((¬ a1 = 98 ∧ ¬ a1 = 112 ∧ ¬ a1 = 116 ∧ ¬ a1 = 121) →
(((((Ok G mX9_addChange d 0 0 [vR 96, vI (gI M 106 0), vI (gI M 106 1), vI (gI M 106 2), vI (gI M 106 3)] M (fun v M5 => v = none ∧ ShM M5 ∧ 
(Q none M5))))))))) :
  Wp G mX9_tell (d + 1) 0 0 0 [some (vR 96), some (vI a1)] [] M 0 0 Q := by
  refine wg_iload_n dX9_tell_0 rfl ?_
  by_cases c0 : a1 = 98
  · replace h := h.1 c0
    refine wg_lookup dX9_tell_1 (by decide) (off := 94) (by rw [c0]; decide) rfl ?_
    refine wg_aload_n dX9_tell_95 rfl (Nat.succ_ne_zero _) ?_
    refine wg_aload_n dX9_tell_96 rfl (Nat.succ_ne_zero _) ?_
    refine wg_getRe dX9_tell_97 (fl_X9_37 rfl) rfl rfl (sm18 hS) ?_
    refine wg_iconst dX9_tell_100 qiconst_0 ?_
    refine wg_iald dX9_tell_101 rfl (by decide) (by decide) ?_
    refine wg_callV (I' := mX9_addBeast) (ci := 9) (np := 1) (d' := d) (q := 96) (as := [vI (gI M 106 0)]) (st := []) dX9_tell_102 lk_X9_63 ci_X9_addBeast rfl (Nat.le_of_ble_eq_true rfl) rfl rfl (Nat.le_of_ble_eq_true rfl) rfl (Nat.le_refl _) ⟨Nat.le_refl _, Nat.le_refl _⟩ h (fun v M1 h => ?_)
    obtain ⟨rfl, hS, h⟩ := h
    exact wp_vret rfl dX9_tell_105 ⟨Nat.le_refl _, Nat.le_refl _⟩ h
  by_cases c1 : a1 = 112
  · replace h := h.2.1 c1
    refine wg_lookup dX9_tell_1 (by decide) (off := 77) (by rw [c1]; decide) rfl ?_
    refine wg_aload_n dX9_tell_78 rfl (Nat.succ_ne_zero _) ?_
    refine wg_aload_n dX9_tell_79 rfl (Nat.succ_ne_zero _) ?_
    refine wg_getRe dX9_tell_80 (fl_X9_37 rfl) rfl rfl (sm18 hS) ?_
    refine wg_iconst dX9_tell_83 qiconst_0 ?_
    refine wg_iald dX9_tell_84 rfl (by decide) (by decide) ?_
    refine wg_aload_n dX9_tell_85 rfl (Nat.succ_ne_zero _) ?_
    refine wg_getRe dX9_tell_86 (fl_X9_37 rfl) rfl rfl (sm18 hS) ?_
    refine wg_iconst dX9_tell_89 qiconst_1 ?_
    refine wg_iald dX9_tell_90 rfl (by decide) (by decide) ?_
    refine wg_callV (I' := mX9_addPerson) (ci := 9) (np := 2) (d' := d) (q := 96) (as := [vI (gI M 106 0), vI (gI M 106 1)]) (st := []) dX9_tell_91 lk_X9_60 ci_X9_addPerson rfl (Nat.le_of_ble_eq_true rfl) rfl rfl (Nat.le_of_ble_eq_true rfl) rfl (Nat.le_refl _) ⟨Nat.le_refl _, Nat.le_refl _⟩ h (fun v M2 h => ?_)
    obtain ⟨rfl, hS, h⟩ := h
    exact wp_vret rfl dX9_tell_94 ⟨Nat.le_refl _, Nat.le_refl _⟩ h
  by_cases c2 : a1 = 116
  · replace h := h.2.2.1 c2
    refine wg_lookup dX9_tell_1 (by decide) (off := 43) (by rw [c2]; decide) rfl ?_
    refine wg_aload_n dX9_tell_44 rfl (Nat.succ_ne_zero _) ?_
    refine wg_aload_n dX9_tell_45 rfl (Nat.succ_ne_zero _) ?_
    refine wg_getRe dX9_tell_46 (fl_X9_37 rfl) rfl rfl (sm18 hS) ?_
    refine wg_iconst dX9_tell_49 qiconst_0 ?_
    refine wg_iald dX9_tell_50 rfl (by decide) (by decide) ?_
    refine wg_aload_n dX9_tell_51 rfl (Nat.succ_ne_zero _) ?_
    refine wg_getRe dX9_tell_52 (fl_X9_37 rfl) rfl rfl (sm18 hS) ?_
    refine wg_iconst dX9_tell_55 qiconst_1 ?_
    refine wg_iald dX9_tell_56 rfl (by decide) (by decide) ?_
    refine wg_callV (I' := mX9_addThing) (ci := 9) (np := 2) (d' := d) (q := 96) (as := [vI (gI M 106 0), vI (gI M 106 1)]) (st := []) dX9_tell_57 lk_X9_53 ci_X9_addThing rfl (Nat.le_of_ble_eq_true rfl) rfl rfl (Nat.le_of_ble_eq_true rfl) rfl (Nat.le_refl _) ⟨Nat.le_refl _, Nat.le_refl _⟩ h (fun v M3 h => ?_)
    obtain ⟨rfl, hS, h⟩ := h
    exact wp_vret rfl dX9_tell_60 ⟨Nat.le_refl _, Nat.le_refl _⟩ h
  by_cases c3 : a1 = 121
  · replace h := h.2.2.2.1 c3
    refine wg_lookup dX9_tell_1 (by decide) (off := 60) (by rw [c3]; decide) rfl ?_
    refine wg_aload_n dX9_tell_61 rfl (Nat.succ_ne_zero _) ?_
    refine wg_aload_n dX9_tell_62 rfl (Nat.succ_ne_zero _) ?_
    refine wg_getRe dX9_tell_63 (fl_X9_37 rfl) rfl rfl (sm18 hS) ?_
    refine wg_iconst dX9_tell_66 qiconst_0 ?_
    refine wg_iald dX9_tell_67 rfl (by decide) (by decide) ?_
    refine wg_aload_n dX9_tell_68 rfl (Nat.succ_ne_zero _) ?_
    refine wg_getRe dX9_tell_69 (fl_X9_37 rfl) rfl rfl (sm18 hS) ?_
    refine wg_iconst dX9_tell_72 qiconst_1 ?_
    refine wg_iald dX9_tell_73 rfl (by decide) (by decide) ?_
    refine wg_callV (I' := mX9_addNeed) (ci := 9) (np := 2) (d' := d) (q := 96) (as := [vI (gI M 106 0), vI (gI M 106 1)]) (st := []) dX9_tell_74 lk_X9_57 ci_X9_addNeed rfl (Nat.le_of_ble_eq_true rfl) rfl rfl (Nat.le_of_ble_eq_true rfl) rfl (Nat.le_refl _) ⟨Nat.le_refl _, Nat.le_refl _⟩ h (fun v M4 h => ?_)
    obtain ⟨rfl, hS, h⟩ := h
    exact wp_vret rfl dX9_tell_77 ⟨Nat.le_refl _, Nat.le_refl _⟩ h
  replace h := h.2.2.2.2 ⟨c0, c1, c2, c3⟩
  refine wg_lookup dX9_tell_1 (by decide) (off := 105) (off_none (fun q hq => by simp only [List.mem_cons, List.not_mem_nil, or_false] at hq; rcases hq with rfl | rfl | rfl | rfl <;> assumption)) rfl ?_
  refine wg_aload_n dX9_tell_106 rfl (Nat.succ_ne_zero _) ?_
  refine wg_aload_n dX9_tell_107 rfl (Nat.succ_ne_zero _) ?_
  refine wg_getRe dX9_tell_108 (fl_X9_37 rfl) rfl rfl (sm18 hS) ?_
  refine wg_iconst dX9_tell_111 qiconst_0 ?_
  refine wg_iald dX9_tell_112 rfl (by decide) (by decide) ?_
  refine wg_aload_n dX9_tell_113 rfl (Nat.succ_ne_zero _) ?_
  refine wg_getRe dX9_tell_114 (fl_X9_37 rfl) rfl rfl (sm18 hS) ?_
  refine wg_iconst dX9_tell_117 qiconst_1 ?_
  refine wg_iald dX9_tell_118 rfl (by decide) (by decide) ?_
  refine wg_aload_n dX9_tell_119 rfl (Nat.succ_ne_zero _) ?_
  refine wg_getRe dX9_tell_120 (fl_X9_37 rfl) rfl rfl (sm18 hS) ?_
  refine wg_iconst dX9_tell_123 qiconst_2 ?_
  refine wg_iald dX9_tell_124 rfl (by decide) (by decide) ?_
  refine wg_aload_n dX9_tell_125 rfl (Nat.succ_ne_zero _) ?_
  refine wg_getRe dX9_tell_126 (fl_X9_37 rfl) rfl rfl (sm18 hS) ?_
  refine wg_iconst dX9_tell_129 qiconst_3 ?_
  refine wg_iald dX9_tell_130 rfl (by decide) (by decide) ?_
  refine wg_callV (I' := mX9_addChange) (ci := 9) (np := 4) (d' := d) (q := 96) (as := [vI (gI M 106 0), vI (gI M 106 1), vI (gI M 106 2), vI (gI M 106 3)]) (st := []) dX9_tell_131 lk_X9_67 ci_X9_addChange rfl (Nat.le_of_ble_eq_true rfl) rfl rfl (Nat.le_of_ble_eq_true rfl) rfl (Nat.le_refl _) ⟨Nat.le_refl _, Nat.le_refl _⟩ h (fun v M5 h => ?_)
  obtain ⟨rfl, hS, h⟩ := h
  exact wp_vret rfl dX9_tell_134 ⟨Nat.le_refl _, Nat.le_refl _⟩ h
set_option maxRecDepth 100000 in
theorem bX9_lay_0 {G : GG} {d : Nat} {M : MM} {Q : Option AV → MM → Prop} (hS : ShM M) (h :
Ok G mX9_fault d 0 0 [vR 96] M (fun v M1 => ∃ r2 : Int, v = some (vI r2) ∧ ShM M1 ∧ 
((r2 ≠ (-4) →
(Q (some (vI (-2))) M1)) ∧
(r2 = (-4) →
(((gI M1 96 19) = 0 →
(Q (some (vI (-2))) M1)) ∧
(¬ ((gI M1 96 19) = 0) →
(((gI M1 96 22) ≠ 0 →
(∀ M6 : MM, M6 = stI M1 96 5 0 →
(∀ M7 : MM, M7 = stI M6 96 9 0 →
(∀ M8 : MM, M8 = stI M7 96 10 0 →
(∀ M9 : MM, M9 = stI M8 96 13 0 →
(∀ M10 : MM, M10 = stI M9 96 15 0 →
(Ok G mX9_beginToRead d 0 0 [vR 96] M10 (fun v M11 => v = none ∧ ShM M11 ∧ 
(Wp G mX9_lay (d + 1) 0 0 55 [some (vR 96)] [] M11 0 0 Q))))))))) ∧
((gI M1 96 22) = 0 →
(Q (some (vI (-2))) M1))))))))) :
  Wp G mX9_lay (d + 1) 0 0 0 [some (vR 96)] [] M 0 0 Q := by
  refine wg_aload_n dX9_lay_0 rfl (Nat.succ_ne_zero _) ?_
  refine wg_callV (I' := mX9_fault) (ci := 9) (np := 0) (d' := d) (q := 96) (as := []) (st := []) dX9_lay_1 lk_X9_160 ci_X9_fault rfl (Nat.le_of_ble_eq_true rfl) rfl rfl (Nat.le_of_ble_eq_true rfl) rfl (Nat.le_refl _) ⟨Nat.le_refl _, Nat.le_refl _⟩ h (fun v M1 h => ?_)
  obtain ⟨r2, rfl, hS, h⟩ := h
  refine wg_bipush dX9_lay_4 qbipush_m4 ?_
  refine wg_icmp_ne dX9_lay_6 rfl (fun c3 => ?_) (fun c3 => ?_)
  · replace h := h.1 c3
    refine wg_bipush dX9_lay_23 qbipush_m2 ?_
    exact wp_iret rfl dX9_lay_25 ⟨Nat.le_refl _, Nat.le_refl _⟩ h
  · replace h := h.2 c3
    refine wg_aload_n dX9_lay_9 rfl (Nat.succ_ne_zero _) ?_
    refine wg_getI dX9_lay_10 (fl_X9_129 rfl) rfl rfl ?_
    refine wg_if_eq dX9_lay_13 rfl (fun c4 => ?_) (fun c4 => ?_)
    · replace h := h.1 c4
      refine wg_bipush dX9_lay_23 qbipush_m2 ?_
      exact wp_iret rfl dX9_lay_25 ⟨Nat.le_refl _, Nat.le_refl _⟩ h
    · replace h := h.2 c4
      refine wg_aload_n dX9_lay_16 rfl (Nat.succ_ne_zero _) ?_
      refine wg_getI dX9_lay_17 (fl_X9_141 rfl) rfl rfl ?_
      refine wg_if_ne dX9_lay_20 rfl (fun c5 => ?_) (fun c5 => ?_)
      · replace h := h.1 c5
        refine wg_aload_n dX9_lay_26 rfl (Nat.succ_ne_zero _) ?_
        refine wg_iconst dX9_lay_27 qiconst_0 ?_
        refine wg_putI dX9_lay_28 (fl_X9_74 rfl) rfl rfl rfl ?_
        generalize hM : stI M1 96 5 0 = M6
        replace h := h _ hM.symm
        replace hS : ShM M6 := by rw [← hM]; exact hS
        clear hM
        refine wg_aload_n dX9_lay_31 rfl (Nat.succ_ne_zero _) ?_
        refine wg_iconst dX9_lay_32 qiconst_0 ?_
        refine wg_putI dX9_lay_33 (fl_X9_78 rfl) rfl rfl rfl ?_
        generalize hM : stI M6 96 9 0 = M7
        replace h := h _ hM.symm
        replace hS : ShM M7 := by rw [← hM]; exact hS
        clear hM
        refine wg_aload_n dX9_lay_36 rfl (Nat.succ_ne_zero _) ?_
        refine wg_iconst dX9_lay_37 qiconst_0 ?_
        refine wg_putI dX9_lay_38 (fl_X9_81 rfl) rfl rfl rfl ?_
        generalize hM : stI M7 96 10 0 = M8
        replace h := h _ hM.symm
        replace hS : ShM M8 := by rw [← hM]; exact hS
        clear hM
        refine wg_aload_n dX9_lay_41 rfl (Nat.succ_ne_zero _) ?_
        refine wg_iconst dX9_lay_42 qiconst_0 ?_
        refine wg_putI dX9_lay_43 (fl_X9_84 rfl) rfl rfl rfl ?_
        generalize hM : stI M8 96 13 0 = M9
        replace h := h _ hM.symm
        replace hS : ShM M9 := by rw [← hM]; exact hS
        clear hM
        refine wg_aload_n dX9_lay_46 rfl (Nat.succ_ne_zero _) ?_
        refine wg_iconst dX9_lay_47 qiconst_0 ?_
        refine wg_putI dX9_lay_48 (fl_X9_87 rfl) rfl rfl rfl ?_
        generalize hM : stI M9 96 15 0 = M10
        replace h := h _ hM.symm
        replace hS : ShM M10 := by rw [← hM]; exact hS
        clear hM
        refine wg_aload_n dX9_lay_51 rfl (Nat.succ_ne_zero _) ?_
        refine wg_callV (I' := mX9_beginToRead) (ci := 9) (np := 0) (d' := d) (q := 96) (as := []) (st := []) dX9_lay_52 lk_X9_153 ci_X9_beginToRead rfl (Nat.le_of_ble_eq_true rfl) rfl rfl (Nat.le_of_ble_eq_true rfl) rfl (Nat.le_refl _) ⟨Nat.le_refl _, Nat.le_refl _⟩ h (fun v M11 h => ?_)
        obtain ⟨rfl, hS, h⟩ := h
        exact h
      · replace h := h.2 c5
        refine wg_bipush dX9_lay_23 qbipush_m2 ?_
        exact wp_iret rfl dX9_lay_25 ⟨Nat.le_refl _, Nat.le_refl _⟩ h
set_option maxRecDepth 100000 in
theorem bX9_lay_55 {G : GG} {d : Nat} {M : MM} {Q : Option AV → MM → Prop} (hS : ShM M) (h :
((gI M 96 4) ≤ (gI M 96 17) →
(Ok G mX9_begin d 0 0 [vR 96] M (fun v M2 => v = none ∧ ShM M2 ∧ 
(Q (some (vI (gI M2 96 5))) M2)))) ∧
(¬ ((gI M 96 4) ≤ (gI M 96 17)) →
(Ok G mX9_readsItem d 0 0 [vR 96] M (fun v M3 => ∃ r4 : Int, v = some (vI r4) ∧ ShM M3 ∧ 
(Ok G mX9_tell d 0 0 [vR 96, vI r4] M3 (fun v M5 => v = none ∧ ShM M5 ∧ 
(Wp G mX9_lay (d + 1) 0 0 55 [some (vR 96)] [] M5 0 0 Q))))))) :
  Wp G mX9_lay (d + 1) 0 0 55 [some (vR 96)] [] M 0 0 Q := by
  refine wg_aload_n dX9_lay_55 rfl (Nat.succ_ne_zero _) ?_
  refine wg_getI dX9_lay_56 (fl_X9_111 rfl) rfl rfl ?_
  refine wg_aload_n dX9_lay_59 rfl (Nat.succ_ne_zero _) ?_
  refine wg_getI dX9_lay_60 (fl_X9_104 rfl) rfl rfl ?_
  refine wg_icmp_ge dX9_lay_63 rfl (fun c1 => ?_) (fun c1 => ?_)
  · replace h := h.1 c1
    refine wg_aload_n dX9_lay_77 rfl (Nat.succ_ne_zero _) ?_
    refine wg_callV (I' := mX9_begin) (ci := 9) (np := 0) (d' := d) (q := 96) (as := []) (st := []) dX9_lay_78 lk_X9_71 ci_X9_begin rfl (Nat.le_of_ble_eq_true rfl) rfl rfl (Nat.le_of_ble_eq_true rfl) rfl (Nat.le_refl _) ⟨Nat.le_refl _, Nat.le_refl _⟩ h (fun v M2 h => ?_)
    obtain ⟨rfl, hS, h⟩ := h
    refine wg_aload_n dX9_lay_81 rfl (Nat.succ_ne_zero _) ?_
    refine wg_getI dX9_lay_82 (fl_X9_74 rfl) rfl rfl ?_
    exact wp_iret rfl dX9_lay_85 ⟨Nat.le_refl _, Nat.le_refl _⟩ h
  · replace h := h.2 c1
    refine wg_aload_n dX9_lay_66 rfl (Nat.succ_ne_zero _) ?_
    refine wg_aload_n dX9_lay_67 rfl (Nat.succ_ne_zero _) ?_
    refine wg_callV (I' := mX9_readsItem) (ci := 9) (np := 0) (d' := d) (q := 96) (as := []) (st := [vR 96]) dX9_lay_68 lk_X9_156 ci_X9_readsItem rfl (Nat.le_of_ble_eq_true rfl) rfl rfl (Nat.le_of_ble_eq_true rfl) rfl (Nat.le_refl _) ⟨Nat.le_refl _, Nat.le_refl _⟩ h (fun v M3 h => ?_)
    obtain ⟨r4, rfl, hS, h⟩ := h
    refine wg_callV (I' := mX9_tell) (ci := 9) (np := 1) (d' := d) (q := 96) (as := [vI r4]) (st := []) dX9_lay_71 lk_X9_163 ci_X9_tell rfl (Nat.le_of_ble_eq_true rfl) rfl rfl (Nat.le_of_ble_eq_true rfl) rfl (Nat.le_refl _) ⟨Nat.le_refl _, Nat.le_refl _⟩ h (fun v M5 h => ?_)
    obtain ⟨rfl, hS, h⟩ := h
    refine wg_goto dX9_lay_74 rfl ?_
    exact h
set_option maxRecDepth 100000 in
theorem bX9_isThing_0 {G : GG} {d : Nat} {M : MM} {Q : Option AV → MM → Prop} (a1 : Int) (hS : ShM M) (h :
R32 ((gI M 96 5) - 1) ∧
(Ok G mX9_in d 0 0 [vL a1, vL 0, vL ((gI M 96 5) - 1)] M (fun v M1 => ∃ r2 : Int, v = some (vI r2) ∧ ShM M1 ∧ 
((r2 = 0 ∨ r2 = 1) ∧ Q (some (vI r2)) M1)))) :
  Wp G mX9_isThing (d + 1) 0 0 0 [some (vR 96), some (vI a1)] [] M 0 0 Q := by
  refine wg_iload_n dX9_isThing_0 rfl ?_
  refine wg_i2l dX9_isThing_1 ?_
  refine wg_lconst dX9_isThing_2 rfl ?_
  refine wg_aload_n dX9_isThing_3 rfl (Nat.succ_ne_zero _) ?_
  refine wg_getI dX9_isThing_4 (fl_X9_74 rfl) rfl rfl ?_
  refine wg_iconst dX9_isThing_7 qiconst_1 ?_
  obtain ⟨o, h⟩ := h
  refine wg_isub dX9_isThing_8 o ?_
  refine wg_i2l dX9_isThing_9 ?_
  refine wg_callS (I' := mX9_in) (np := 3) (d' := d) (as := [vL a1, vL 0, vL ((gI M 96 5) - 1)]) (st := []) dX9_isThing_10 lk_X9_100 ci_X9_in rfl rfl (Nat.le_of_ble_eq_true rfl) (Nat.le_refl _) ⟨Nat.le_refl _, Nat.le_refl _⟩ h (fun v M1 h => ?_)
  obtain ⟨r2, rfl, hS, h⟩ := h
  obtain ⟨o, h⟩ := h
  exact wp_zret rfl dX9_isThing_13 ⟨Nat.le_refl _, Nat.le_refl _⟩ o h
set_option maxRecDepth 100000 in
theorem bX9_isBeast_0 {G : GG} {d : Nat} {M : MM} {Q : Option AV → MM → Prop} (a1 : Int) (hS : ShM M) (h :
R32 ((gI M 96 13) - 1) ∧
(Ok G mX9_in d 0 0 [vL a1, vL 0, vL ((gI M 96 13) - 1)] M (fun v M1 => ∃ r2 : Int, v = some (vI r2) ∧ ShM M1 ∧ 
((r2 = 0 ∨ r2 = 1) ∧ Q (some (vI r2)) M1)))) :
  Wp G mX9_isBeast (d + 1) 0 0 0 [some (vR 96), some (vI a1)] [] M 0 0 Q := by
  refine wg_iload_n dX9_isBeast_0 rfl ?_
  refine wg_i2l dX9_isBeast_1 ?_
  refine wg_lconst dX9_isBeast_2 rfl ?_
  refine wg_aload_n dX9_isBeast_3 rfl (Nat.succ_ne_zero _) ?_
  refine wg_getI dX9_isBeast_4 (fl_X9_84 rfl) rfl rfl ?_
  refine wg_iconst dX9_isBeast_7 qiconst_1 ?_
  obtain ⟨o, h⟩ := h
  refine wg_isub dX9_isBeast_8 o ?_
  refine wg_i2l dX9_isBeast_9 ?_
  refine wg_callS (I' := mX9_in) (np := 3) (d' := d) (as := [vL a1, vL 0, vL ((gI M 96 13) - 1)]) (st := []) dX9_isBeast_10 lk_X9_100 ci_X9_in rfl rfl (Nat.le_of_ble_eq_true rfl) (Nat.le_refl _) ⟨Nat.le_refl _, Nat.le_refl _⟩ h (fun v M1 h => ?_)
  obtain ⟨r2, rfl, hS, h⟩ := h
  obtain ⟨o, h⟩ := h
  exact wp_zret rfl dX9_isBeast_13 ⟨Nat.le_refl _, Nat.le_refl _⟩ o h
set_option maxRecDepth 100000 in
theorem bX9_isSet_0 {G : GG} {d : Nat} {M : MM} {Q : Option AV → MM → Prop} (a1 : Int) (hS : ShM M) (h :
R32 ((ishlv 1 (gI M 96 5)) - 1) ∧
(Ok G mX9_in d 0 0 [vL a1, vL 0, vL ((ishlv 1 (gI M 96 5)) - 1)] M (fun v M1 => ∃ r2 : Int, v = some (vI r2) ∧ ShM M1 ∧ 
((r2 = 0 ∨ r2 = 1) ∧ Q (some (vI r2)) M1)))) :
  Wp G mX9_isSet (d + 1) 0 0 0 [some (vR 96), some (vI a1)] [] M 0 0 Q := by
  refine wg_iload_n dX9_isSet_0 rfl ?_
  refine wg_i2l dX9_isSet_1 ?_
  refine wg_lconst dX9_isSet_2 rfl ?_
  refine wg_iconst dX9_isSet_3 qiconst_1 ?_
  refine wg_aload_n dX9_isSet_4 rfl (Nat.succ_ne_zero _) ?_
  refine wg_getI dX9_isSet_5 (fl_X9_74 rfl) rfl rfl ?_
  refine wg_ishl dX9_isSet_8 ?_
  refine wg_iconst dX9_isSet_9 qiconst_1 ?_
  obtain ⟨o, h⟩ := h
  refine wg_isub dX9_isSet_10 o ?_
  refine wg_i2l dX9_isSet_11 ?_
  refine wg_callS (I' := mX9_in) (np := 3) (d' := d) (as := [vL a1, vL 0, vL ((ishlv 1 (gI M 96 5)) - 1)]) (st := []) dX9_isSet_12 lk_X9_100 ci_X9_in rfl rfl (Nat.le_of_ble_eq_true rfl) (Nat.le_refl _) ⟨Nat.le_refl _, Nat.le_refl _⟩ h (fun v M1 h => ?_)
  obtain ⟨r2, rfl, hS, h⟩ := h
  obtain ⟨o, h⟩ := h
  exact wp_zret rfl dX9_isSet_15 ⟨Nat.le_refl _, Nat.le_refl _⟩ o h
set_option maxRecDepth 100000 in
theorem bX9_strengthOf_0 {G : GG} {d : Nat} {M : MM} {Q : Option AV → MM → Prop} (a1 : Int) (hS : ShM M) (h :
Wp G mX9_strengthOf (d + 1) 0 0 10 [some (vR 96), some (vI a1), some (vI 0), some (vI 0), some (vI 0), some (vI 0), none] [] M 0 0 Q) :
  Wp G mX9_strengthOf (d + 1) 0 0 0 [some (vR 96), some (vI a1), none, none, none, none, none] [] M 0 0 Q := by
  refine wg_iconst dX9_strengthOf_0 qiconst_0 ?_
  refine wg_istore_n (L' := [some (vR 96), some (vI a1), some (vI 0), none, none, none, none]) dX9_strengthOf_1 (Nat.le_of_ble_eq_true rfl) rfl ?_
  refine wg_iconst dX9_strengthOf_2 qiconst_0 ?_
  refine wg_istore_n (L' := [some (vR 96), some (vI a1), some (vI 0), some (vI 0), none, none, none]) dX9_strengthOf_3 (Nat.le_of_ble_eq_true rfl) rfl ?_
  refine wg_iconst dX9_strengthOf_4 qiconst_0 ?_
  refine wg_istore (L' := [some (vR 96), some (vI a1), some (vI 0), some (vI 0), some (vI 0), none, none]) dX9_strengthOf_5 (Nat.le_of_ble_eq_true rfl) rfl ?_
  refine wg_iconst dX9_strengthOf_7 qiconst_0 ?_
  refine wg_istore (L' := [some (vR 96), some (vI a1), some (vI 0), some (vI 0), some (vI 0), some (vI 0), none]) dX9_strengthOf_8 (Nat.le_of_ble_eq_true rfl) rfl ?_
  exact h
set_option maxRecDepth 100000 in
theorem bX9_strengthOf_10 {G : GG} {d : Nat} {M : MM} {Q : Option AV → MM → Prop} (a1 : Int) (s2 : Int) (s3 : Int) (s4 : Int) (s5 : Int) (hS : ShM M) (h :
((gI M 96 5) ≤ s5 →
(R32 (s2 + (if s3 ≤ 1 then (0 : Int) else s4)) ∧
(Q (some (vI (s2 + (if s3 ≤ 1 then (0 : Int) else s4)))) M))) ∧
(¬ ((gI M 96 5) ≤ s5) →
(Ok G mX9_has d 0 0 [vI a1, vI s5] M (fun v M4 => ∃ r5 : Int, v = some (vI r5) ∧ ShM M4 ∧ 
((r5 = 0 →
(R32 (s2 + 0) ∧
(R32 (s3 + 0) ∧
(R32 (s4 + 0) ∧
(R32 (s5 + 1) ∧
(Wp G mX9_strengthOf (d + 1) 0 0 10 [some (vR 96), some (vI a1), some (vI (s2 + 0)), some (vI (s3 + 0)), some (vI (s4 + 0)), some (vI (s5 + 1)), none] [] M4 0 0 Q)))))) ∧
(¬ (r5 = 0) →
(((0 : Int) ≤ s5 ∧ (s5 : Int) < 10) ∧
(R32 (s2 + (gI M4 99 s5.toNat)) ∧
((R32 (s3 + (if (gI M4 100 s5.toNat) = 1 then (1 : Int) else 0)) ∧
((((gI M4 100 s5.toNat) ≠ 1 →
(R32 (s4 + 0) ∧
(R32 (s5 + 1) ∧
(Wp G mX9_strengthOf (d + 1) 0 0 10 [some (vR 96), some (vI a1), some (vI (s2 + (gI M4 99 s5.toNat))), some (vI (s3 + (if (gI M4 100 s5.toNat) = 1 then (1 : Int) else 0))), some (vI (s4 + 0)), some (vI (s5 + 1)), none] [] M4 0 0 Q)))) ∧
((gI M4 100 s5.toNat) = 1 →
((R32 (s4 + (gI M4 99 s5.toNat)) ∧
(R32 (s5 + 1) ∧
(Wp G mX9_strengthOf (d + 1) 0 0 10 [some (vR 96), some (vI a1), some (vI (s2 + (gI M4 99 s5.toNat))), some (vI (s3 + (if (gI M4 100 s5.toNat) = 1 then (1 : Int) else 0))), some (vI (s4 + (gI M4 99 s5.toNat))), some (vI (s5 + 1)), none] [] M4 0 0 Q))))))))))))))))) :
  Wp G mX9_strengthOf (d + 1) 0 0 10 [some (vR 96), some (vI a1), some (vI s2), some (vI s3), some (vI s4), some (vI s5), none] [] M 0 0 Q := by
  refine wg_iload dX9_strengthOf_10 rfl ?_
  refine wg_aload_n dX9_strengthOf_12 rfl (Nat.succ_ne_zero _) ?_
  refine wg_getI dX9_strengthOf_13 (fl_X9_74 rfl) rfl rfl ?_
  refine wg_icmp_ge dX9_strengthOf_16 rfl (fun c1 => ?_) (fun c1 => ?_)
  · replace h := h.1 c1
    refine wg_iload_n dX9_strengthOf_108 rfl ?_
    refine wg_iload_n dX9_strengthOf_109 rfl ?_
    refine wg_iconst dX9_strengthOf_110 qiconst_1 ?_
    have hJ3 : Wp G mX9_strengthOf (d + 1) 0 0 120 [some (vR 96), some (vI a1), some (vI s2), some (vI s3), some (vI s4), some (vI s5), none] [vI (if s3 ≤ 1 then (0 : Int) else s4), vI s2] M 0 0 Q := by
      obtain ⟨o, h⟩ := h
      refine wg_iadd dX9_strengthOf_120 o ?_
      exact wp_iret rfl dX9_strengthOf_121 ⟨Nat.le_refl _, Nat.le_refl _⟩ h
    refine wg_icmp_le dX9_strengthOf_111 rfl (fun c2 => ?_) (fun c2 => ?_)
    · rw [show (if s3 ≤ 1 then (0 : Int) else s4) = 0 from if_pos c2] at hJ3
      refine wg_iconst dX9_strengthOf_119 qiconst_0 ?_
      exact hJ3
    · rw [show (if s3 ≤ 1 then (0 : Int) else s4) = s4 from if_neg c2] at hJ3
      refine wg_iload dX9_strengthOf_114 rfl ?_
      refine wg_goto dX9_strengthOf_116 rfl ?_
      exact hJ3
  · replace h := h.2 c1
    refine wg_iload_n dX9_strengthOf_19 rfl ?_
    refine wg_iload dX9_strengthOf_20 rfl ?_
    refine wg_callS (I' := mX9_has) (np := 2) (d' := d) (as := [vI a1, vI s5]) (st := []) dX9_strengthOf_22 lk_X9_166 ci_X9_has rfl rfl (Nat.le_of_ble_eq_true rfl) (Nat.le_refl _) ⟨Nat.le_refl _, Nat.le_refl _⟩ h (fun v M4 h => ?_)
    obtain ⟨r5, rfl, hS, h⟩ := h
    refine wg_istore (L' := [some (vR 96), some (vI a1), some (vI s2), some (vI s3), some (vI s4), some (vI s5), some (vI r5)]) dX9_strengthOf_25 (Nat.le_of_ble_eq_true rfl) rfl ?_
    refine wg_iload_n dX9_strengthOf_27 rfl ?_
    refine wg_iload dX9_strengthOf_28 rfl ?_
    refine wg_if_eq dX9_strengthOf_30 rfl (fun c6 => ?_) (fun c6 => ?_)
    · replace h := h.1 c6
      refine wg_iconst dX9_strengthOf_43 qiconst_0 ?_
      obtain ⟨o, h⟩ := h
      refine wg_iadd dX9_strengthOf_44 o ?_
      refine wg_istore_n (L' := [some (vR 96), some (vI a1), some (vI (s2 + 0)), some (vI s3), some (vI s4), some (vI s5), some (vI r5)]) dX9_strengthOf_45 (Nat.le_of_ble_eq_true rfl) rfl ?_
      refine wg_iload_n dX9_strengthOf_46 rfl ?_
      refine wg_iload dX9_strengthOf_47 rfl ?_
      refine wg_if_eq dX9_strengthOf_49 rfl (fun _ => ?_) (fun c => absurd c6 c)
      refine wg_iconst dX9_strengthOf_67 qiconst_0 ?_
      obtain ⟨o, h⟩ := h
      refine wg_iadd dX9_strengthOf_68 o ?_
      refine wg_istore_n (L' := [some (vR 96), some (vI a1), some (vI (s2 + 0)), some (vI (s3 + 0)), some (vI s4), some (vI s5), some (vI r5)]) dX9_strengthOf_69 (Nat.le_of_ble_eq_true rfl) rfl ?_
      refine wg_iload dX9_strengthOf_70 rfl ?_
      refine wg_iload dX9_strengthOf_72 rfl ?_
      refine wg_if_eq dX9_strengthOf_74 rfl (fun _ => ?_) (fun c => absurd c6 c)
      refine wg_iconst dX9_strengthOf_98 qiconst_0 ?_
      obtain ⟨o, h⟩ := h
      refine wg_iadd dX9_strengthOf_99 o ?_
      refine wg_istore (L' := [some (vR 96), some (vI a1), some (vI (s2 + 0)), some (vI (s3 + 0)), some (vI (s4 + 0)), some (vI s5), some (vI r5)]) dX9_strengthOf_100 (Nat.le_of_ble_eq_true rfl) rfl ?_
      obtain ⟨o, h⟩ := h
      refine wg_iinc (L' := [some (vR 96), some (vI a1), some (vI (s2 + 0)), some (vI (s3 + 0)), some (vI (s4 + 0)), some (vI (s5 + 1)), some (vI r5)]) dX9_strengthOf_102 (Nat.le_of_ble_eq_true rfl) rfl rfl o ?_
      refine wg_goto dX9_strengthOf_105 rfl ?_
      refine wg_weak [true, true, true, true, true, true, false] rfl ?_
      exact h
    · replace h := h.2 c6
      refine wg_aload_n dX9_strengthOf_33 rfl (Nat.succ_ne_zero _) ?_
      refine wg_getRe dX9_strengthOf_34 (fl_X9_16 rfl) rfl rfl (sm6 hS) ?_
      refine wg_iload dX9_strengthOf_37 rfl ?_
      obtain ⟨o7, h⟩ := h
      refine wg_iald dX9_strengthOf_39 rfl o7.1 o7.2 ?_
      refine wg_goto dX9_strengthOf_40 rfl ?_
      obtain ⟨o, h⟩ := h
      refine wg_iadd dX9_strengthOf_44 o ?_
      refine wg_istore_n (L' := [some (vR 96), some (vI a1), some (vI (s2 + (gI M4 99 s5.toNat))), some (vI s3), some (vI s4), some (vI s5), some (vI r5)]) dX9_strengthOf_45 (Nat.le_of_ble_eq_true rfl) rfl ?_
      refine wg_iload_n dX9_strengthOf_46 rfl ?_
      refine wg_iload dX9_strengthOf_47 rfl ?_
      refine wg_if_eq dX9_strengthOf_49 rfl (fun c => absurd c c6) (fun _ => ?_)
      refine wg_aload_n dX9_strengthOf_52 rfl (Nat.succ_ne_zero _) ?_
      refine wg_getRe dX9_strengthOf_53 (fl_X9_19 rfl) rfl rfl (sm7 hS) ?_
      refine wg_iload dX9_strengthOf_56 rfl ?_
      refine wg_iald dX9_strengthOf_58 rfl o7.1 o7.2 ?_
      refine wg_iconst dX9_strengthOf_59 qiconst_1 ?_
      have hJ10 : Wp G mX9_strengthOf (d + 1) 0 0 68 [some (vR 96), some (vI a1), some (vI (s2 + (gI M4 99 s5.toNat))), some (vI s3), some (vI s4), some (vI s5), some (vI r5)] [vI (if (gI M4 100 s5.toNat) = 1 then (1 : Int) else 0), vI s3] M4 0 0 Q := by
        obtain ⟨o, h⟩ := h
        refine wg_iadd dX9_strengthOf_68 o ?_
        refine wg_istore_n (L' := [some (vR 96), some (vI a1), some (vI (s2 + (gI M4 99 s5.toNat))), some (vI (s3 + (if (gI M4 100 s5.toNat) = 1 then (1 : Int) else 0))), some (vI s4), some (vI s5), some (vI r5)]) dX9_strengthOf_69 (Nat.le_of_ble_eq_true rfl) rfl ?_
        refine wg_iload dX9_strengthOf_70 rfl ?_
        refine wg_iload dX9_strengthOf_72 rfl ?_
        refine wg_if_eq dX9_strengthOf_74 rfl (fun c => absurd c c6) (fun _ => ?_)
        refine wg_aload_n dX9_strengthOf_77 rfl (Nat.succ_ne_zero _) ?_
        refine wg_getRe dX9_strengthOf_78 (fl_X9_19 rfl) rfl rfl (sm7 hS) ?_
        refine wg_iload dX9_strengthOf_81 rfl ?_
        refine wg_iald dX9_strengthOf_83 rfl o7.1 o7.2 ?_
        refine wg_iconst dX9_strengthOf_84 qiconst_1 ?_
        refine wg_icmp_ne dX9_strengthOf_85 rfl (fun c9 => ?_) (fun c9 => ?_)
        · replace h := h.1 c9
          refine wg_iconst dX9_strengthOf_98 qiconst_0 ?_
          obtain ⟨o, h⟩ := h
          refine wg_iadd dX9_strengthOf_99 o ?_
          refine wg_istore (L' := [some (vR 96), some (vI a1), some (vI (s2 + (gI M4 99 s5.toNat))), some (vI (s3 + (if (gI M4 100 s5.toNat) = 1 then (1 : Int) else 0))), some (vI (s4 + 0)), some (vI s5), some (vI r5)]) dX9_strengthOf_100 (Nat.le_of_ble_eq_true rfl) rfl ?_
          obtain ⟨o, h⟩ := h
          refine wg_iinc (L' := [some (vR 96), some (vI a1), some (vI (s2 + (gI M4 99 s5.toNat))), some (vI (s3 + (if (gI M4 100 s5.toNat) = 1 then (1 : Int) else 0))), some (vI (s4 + 0)), some (vI (s5 + 1)), some (vI r5)]) dX9_strengthOf_102 (Nat.le_of_ble_eq_true rfl) rfl rfl o ?_
          refine wg_goto dX9_strengthOf_105 rfl ?_
          refine wg_weak [true, true, true, true, true, true, false] rfl ?_
          exact h
        · replace h := h.2 c9
          refine wg_aload_n dX9_strengthOf_88 rfl (Nat.succ_ne_zero _) ?_
          refine wg_getRe dX9_strengthOf_89 (fl_X9_16 rfl) rfl rfl (sm6 hS) ?_
          refine wg_iload dX9_strengthOf_92 rfl ?_
          refine wg_iald dX9_strengthOf_94 rfl o7.1 o7.2 ?_
          refine wg_goto dX9_strengthOf_95 rfl ?_
          obtain ⟨o, h⟩ := h
          refine wg_iadd dX9_strengthOf_99 o ?_
          refine wg_istore (L' := [some (vR 96), some (vI a1), some (vI (s2 + (gI M4 99 s5.toNat))), some (vI (s3 + (if (gI M4 100 s5.toNat) = 1 then (1 : Int) else 0))), some (vI (s4 + (gI M4 99 s5.toNat))), some (vI s5), some (vI r5)]) dX9_strengthOf_100 (Nat.le_of_ble_eq_true rfl) rfl ?_
          obtain ⟨o, h⟩ := h
          refine wg_iinc (L' := [some (vR 96), some (vI a1), some (vI (s2 + (gI M4 99 s5.toNat))), some (vI (s3 + (if (gI M4 100 s5.toNat) = 1 then (1 : Int) else 0))), some (vI (s4 + (gI M4 99 s5.toNat))), some (vI (s5 + 1)), some (vI r5)]) dX9_strengthOf_102 (Nat.le_of_ble_eq_true rfl) rfl rfl o ?_
          refine wg_goto dX9_strengthOf_105 rfl ?_
          refine wg_weak [true, true, true, true, true, true, false] rfl ?_
          exact h
      refine wg_icmp_ne dX9_strengthOf_60 rfl (fun c8 => ?_) (fun c8 => ?_)
      · rw [show (if (gI M4 100 s5.toNat) = 1 then (1 : Int) else 0) = 0 from if_neg c8] at hJ10
        refine wg_iconst dX9_strengthOf_67 qiconst_0 ?_
        exact hJ10
      · rw [show (if (gI M4 100 s5.toNat) = 1 then (1 : Int) else 0) = 1 from if_pos c8] at hJ10
        refine wg_iconst dX9_strengthOf_63 qiconst_1 ?_
        refine wg_goto dX9_strengthOf_64 rfl ?_
        exact hJ10
set_option maxRecDepth 100000 in
theorem bX9_followsOf_0 {G : GG} {d : Nat} {M : MM} {Q : Option AV → MM → Prop} (a1 : Int) (hS : ShM M) (h :
Wp G mX9_followsOf (d + 1) 0 0 4 [some (vR 96), none, some (vI a1), some (vI 0), none] [] M 0 0 Q) :
  Wp G mX9_followsOf (d + 1) 0 0 0 [some (vR 96), some (vI a1), none, none, none] [] M 0 0 Q := by
  refine wg_iload_n dX9_followsOf_0 rfl ?_
  refine wg_istore_n (L' := [some (vR 96), some (vI a1), some (vI a1), none, none]) dX9_followsOf_1 (Nat.le_of_ble_eq_true rfl) rfl ?_
  refine wg_iconst dX9_followsOf_2 qiconst_0 ?_
  refine wg_istore_n (L' := [some (vR 96), some (vI a1), some (vI a1), some (vI 0), none]) dX9_followsOf_3 (Nat.le_of_ble_eq_true rfl) rfl ?_
  refine wg_weak [true, false, true, true, false] rfl ?_
  exact h
set_option maxRecDepth 100000 in
theorem bX9_followsOf_4 {G : GG} {d : Nat} {M : MM} {Q : Option AV → MM → Prop} (s2 : Int) (s3 : Int) (hS : ShM M) (h :
(s2 = s3 →
(Q (some (vI s2)) M)) ∧
(¬ (s2 = s3) →
(Wp G mX9_followsOf (d + 1) 0 0 14 [some (vR 96), none, some (vI s2), some (vI s2), some (vI 0)] [] M 0 0 Q))) :
  Wp G mX9_followsOf (d + 1) 0 0 4 [some (vR 96), none, some (vI s2), some (vI s3), none] [] M 0 0 Q := by
  refine wg_iload_n dX9_followsOf_4 rfl ?_
  refine wg_iload_n dX9_followsOf_5 rfl ?_
  refine wg_icmp_eq dX9_followsOf_6 rfl (fun c1 => ?_) (fun c1 => ?_)
  · replace h := h.1 c1
    refine wg_iload_n dX9_followsOf_55 rfl ?_
    exact wp_iret rfl dX9_followsOf_56 ⟨Nat.le_refl _, Nat.le_refl _⟩ h
  · replace h := h.2 c1
    refine wg_iload_n dX9_followsOf_9 rfl ?_
    refine wg_istore_n (L' := [some (vR 96), none, some (vI s2), some (vI s2), none]) dX9_followsOf_10 (Nat.le_of_ble_eq_true rfl) rfl ?_
    refine wg_iconst dX9_followsOf_11 qiconst_0 ?_
    refine wg_istore (L' := [some (vR 96), none, some (vI s2), some (vI s2), some (vI 0)]) dX9_followsOf_12 (Nat.le_of_ble_eq_true rfl) rfl ?_
    exact h
set_option maxRecDepth 100000 in
theorem bX9_followsOf_14 {G : GG} {d : Nat} {M : MM} {Q : Option AV → MM → Prop} (s2 : Int) (s3 : Int) (s4 : Int) (hS : ShM M) (h :
((gI M 96 5) ≤ s4 →
(Wp G mX9_followsOf (d + 1) 0 0 4 [some (vR 96), none, some (vI s2), some (vI s3), none] [] M 0 0 Q)) ∧
(¬ ((gI M 96 5) ≤ s4) →
(Ok G mX9_has d 0 0 [vI s3, vI s4] M (fun v M2 => ∃ r3 : Int, v = some (vI r3) ∧ ShM M2 ∧ 
((r3 = 0 →
(R32 (s4 + 1) ∧
(Wp G mX9_followsOf (d + 1) 0 0 14 [some (vR 96), none, some (vI (iorv s2 0)), some (vI s3), some (vI (s4 + 1))] [] M2 0 0 Q))) ∧
(¬ (r3 = 0) →
(((0 : Int) ≤ s4 ∧ (s4 : Int) < 10) ∧
(R32 (s4 + 1) ∧
(Wp G mX9_followsOf (d + 1) 0 0 14 [some (vR 96), none, some (vI (iorv s2 (gI M2 101 s4.toNat))), some (vI s3), some (vI (s4 + 1))] [] M2 0 0 Q))))))))) :
  Wp G mX9_followsOf (d + 1) 0 0 14 [some (vR 96), none, some (vI s2), some (vI s3), some (vI s4)] [] M 0 0 Q := by
  refine wg_iload dX9_followsOf_14 rfl ?_
  refine wg_aload_n dX9_followsOf_16 rfl (Nat.succ_ne_zero _) ?_
  refine wg_getI dX9_followsOf_17 (fl_X9_74 rfl) rfl rfl ?_
  refine wg_icmp_ge dX9_followsOf_20 rfl (fun c1 => ?_) (fun c1 => ?_)
  · replace h := h.1 c1
    refine wg_goto dX9_followsOf_52 rfl ?_
    refine wg_weak [true, false, true, true, false] rfl ?_
    exact h
  · replace h := h.2 c1
    refine wg_iload_n dX9_followsOf_23 rfl ?_
    refine wg_iload_n dX9_followsOf_24 rfl ?_
    refine wg_iload dX9_followsOf_25 rfl ?_
    refine wg_callS (I' := mX9_has) (np := 2) (d' := d) (as := [vI s3, vI s4]) (st := [vI s2]) dX9_followsOf_27 lk_X9_166 ci_X9_has rfl rfl (Nat.le_of_ble_eq_true rfl) (Nat.le_refl _) ⟨Nat.le_refl _, Nat.le_refl _⟩ h (fun v M2 h => ?_)
    obtain ⟨r3, rfl, hS, h⟩ := h
    refine wg_if_eq dX9_followsOf_30 rfl (fun c4 => ?_) (fun c4 => ?_)
    · replace h := h.1 c4
      refine wg_iconst dX9_followsOf_43 qiconst_0 ?_
      refine wg_ior dX9_followsOf_44 ?_
      refine wg_istore_n (L' := [some (vR 96), none, some (vI (iorv s2 0)), some (vI s3), some (vI s4)]) dX9_followsOf_45 (Nat.le_of_ble_eq_true rfl) rfl ?_
      obtain ⟨o, h⟩ := h
      refine wg_iinc (L' := [some (vR 96), none, some (vI (iorv s2 0)), some (vI s3), some (vI (s4 + 1))]) dX9_followsOf_46 (Nat.le_of_ble_eq_true rfl) rfl rfl o ?_
      refine wg_goto dX9_followsOf_49 rfl ?_
      exact h
    · replace h := h.2 c4
      refine wg_aload_n dX9_followsOf_33 rfl (Nat.succ_ne_zero _) ?_
      refine wg_getRe dX9_followsOf_34 (fl_X9_22 rfl) rfl rfl (sm8 hS) ?_
      refine wg_iload dX9_followsOf_37 rfl ?_
      obtain ⟨o5, h⟩ := h
      refine wg_iald dX9_followsOf_39 rfl o5.1 o5.2 ?_
      refine wg_goto dX9_followsOf_40 rfl ?_
      refine wg_ior dX9_followsOf_44 ?_
      refine wg_istore_n (L' := [some (vR 96), none, some (vI (iorv s2 (gI M2 101 s4.toNat))), some (vI s3), some (vI s4)]) dX9_followsOf_45 (Nat.le_of_ble_eq_true rfl) rfl ?_
      obtain ⟨o, h⟩ := h
      refine wg_iinc (L' := [some (vR 96), none, some (vI (iorv s2 (gI M2 101 s4.toNat))), some (vI s3), some (vI (s4 + 1))]) dX9_followsOf_46 (Nat.le_of_ble_eq_true rfl) rfl rfl o ?_
      refine wg_goto dX9_followsOf_49 rfl ?_
      exact h
set_option maxRecDepth 100000 in
theorem bX9_goneIn_0 {G : GG} {d : Nat} {M : MM} {Q : Option AV → MM → Prop} (a1 : Int) (hS : ShM M) (h :
Wp G mX9_goneIn d 0 0 4 [some (vR 96), some (vI a1), some (vI 0), some (vI 0)] [] M 0 0 Q) :
  Wp G mX9_goneIn d 0 0 0 [some (vR 96), some (vI a1), none, none] [] M 0 0 Q := by
  refine wg_iconst dX9_goneIn_0 qiconst_0 ?_
  refine wg_istore_n (L' := [some (vR 96), some (vI a1), some (vI 0), none]) dX9_goneIn_1 (Nat.le_of_ble_eq_true rfl) rfl ?_
  refine wg_iconst dX9_goneIn_2 qiconst_0 ?_
  refine wg_istore_n (L' := [some (vR 96), some (vI a1), some (vI 0), some (vI 0)]) dX9_goneIn_3 (Nat.le_of_ble_eq_true rfl) rfl ?_
  exact h
set_option maxRecDepth 100000 in
theorem bX9_goneIn_4 {G : GG} {d : Nat} {M : MM} {Q : Option AV → MM → Prop} (a1 : Int) (s2 : Int) (s3 : Int) (hS : ShM M) (h :
((gI M 96 13) ≤ s3 →
(Q (some (vI s2)) M)) ∧
(¬ ((gI M 96 13) ≤ s3) →
(R32 (a1 + 0) ∧
(R32 ((a1 + 0) + s3) ∧
(((0 : Int) ≤ (a1 + 0) + s3 ∧ ((a1 + 0) + s3 : Int) < 156) ∧
(R32 (s3 + 1) ∧
(Wp G mX9_goneIn d 0 0 4 [some (vR 96), some (vI a1), some (vI (iorv s2 (gI M 97 ((a1 + 0) + s3).toNat))), some (vI (s3 + 1))] [] M 0 0 Q))))))) :
  Wp G mX9_goneIn d 0 0 4 [some (vR 96), some (vI a1), some (vI s2), some (vI s3)] [] M 0 0 Q := by
  refine wg_iload_n dX9_goneIn_4 rfl ?_
  refine wg_aload_n dX9_goneIn_5 rfl (Nat.succ_ne_zero _) ?_
  refine wg_getI dX9_goneIn_6 (fl_X9_84 rfl) rfl rfl ?_
  refine wg_icmp_ge dX9_goneIn_9 rfl (fun c1 => ?_) (fun c1 => ?_)
  · replace h := h.1 c1
    refine wg_iload_n dX9_goneIn_31 rfl ?_
    exact wp_iret rfl dX9_goneIn_32 ⟨Nat.le_refl _, Nat.le_refl _⟩ h
  · replace h := h.2 c1
    refine wg_iload_n dX9_goneIn_12 rfl ?_
    refine wg_aload_n dX9_goneIn_13 rfl (Nat.succ_ne_zero _) ?_
    refine wg_getRe dX9_goneIn_14 (fl_X9_7 rfl) rfl rfl (sm0 hS) ?_
    refine wg_iload_n dX9_goneIn_17 rfl ?_
    refine wg_iconst dX9_goneIn_18 qiconst_0 ?_
    obtain ⟨o, h⟩ := h
    refine wg_iadd dX9_goneIn_19 o ?_
    refine wg_iload_n dX9_goneIn_20 rfl ?_
    obtain ⟨o, h⟩ := h
    refine wg_iadd dX9_goneIn_21 o ?_
    obtain ⟨o2, h⟩ := h
    refine wg_iald dX9_goneIn_22 rfl o2.1 o2.2 ?_
    refine wg_ior dX9_goneIn_23 ?_
    refine wg_istore_n (L' := [some (vR 96), some (vI a1), some (vI (iorv s2 (gI M 97 ((a1 + 0) + s3).toNat))), some (vI s3)]) dX9_goneIn_24 (Nat.le_of_ble_eq_true rfl) rfl ?_
    obtain ⟨o, h⟩ := h
    refine wg_iinc (L' := [some (vR 96), some (vI a1), some (vI (iorv s2 (gI M 97 ((a1 + 0) + s3).toNat))), some (vI (s3 + 1))]) dX9_goneIn_25 (Nat.le_of_ble_eq_true rfl) rfl rfl o ?_
    refine wg_goto dX9_goneIn_28 rfl ?_
    exact h
set_option maxRecDepth 100000 in
theorem bX9_thereIn_0 {G : GG} {d : Nat} {M : MM} {Q : Option AV → MM → Prop} (a1 : Int) (hS : ShM M) (h :
R32 ((ishlv 1 (gI M 96 5)) - 1) ∧
(Ok G mX9_goneIn d 0 0 [vR 96, vI a1] M (fun v M1 => ∃ r2 : Int, v = some (vI r2) ∧ ShM M1 ∧ 
(Ok G mX9_followsOf d 0 0 [vR 96, vI r2] M1 (fun v M3 => ∃ r4 : Int, v = some (vI r4) ∧ ShM M3 ∧ 
(Q (some (vI (iandv ((ishlv 1 (gI M 96 5)) - 1) (ixorv r4 (-1))))) M3)))))) :
  Wp G mX9_thereIn (d + 1) 0 0 0 [some (vR 96), some (vI a1)] [] M 0 0 Q := by
  refine wg_iconst dX9_thereIn_0 qiconst_1 ?_
  refine wg_aload_n dX9_thereIn_1 rfl (Nat.succ_ne_zero _) ?_
  refine wg_getI dX9_thereIn_2 (fl_X9_74 rfl) rfl rfl ?_
  refine wg_ishl dX9_thereIn_5 ?_
  refine wg_iconst dX9_thereIn_6 qiconst_1 ?_
  obtain ⟨o, h⟩ := h
  refine wg_isub dX9_thereIn_7 o ?_
  refine wg_aload_n dX9_thereIn_8 rfl (Nat.succ_ne_zero _) ?_
  refine wg_aload_n dX9_thereIn_9 rfl (Nat.succ_ne_zero _) ?_
  refine wg_iload_n dX9_thereIn_10 rfl ?_
  refine wg_callV (I' := mX9_goneIn) (ci := 9) (np := 1) (d' := d) (q := 96) (as := [vI a1]) (st := [vR 96, vI ((ishlv 1 (gI M 96 5)) - 1)]) dX9_thereIn_11 lk_X9_170 ci_X9_goneIn rfl (Nat.le_of_ble_eq_true rfl) rfl rfl (Nat.le_of_ble_eq_true rfl) rfl (Nat.le_refl _) ⟨Nat.le_refl _, Nat.le_refl _⟩ h (fun v M1 h => ?_)
  obtain ⟨r2, rfl, hS, h⟩ := h
  refine wg_callV (I' := mX9_followsOf) (ci := 9) (np := 1) (d' := d) (q := 96) (as := [vI r2]) (st := [vI ((ishlv 1 (gI M 96 5)) - 1)]) dX9_thereIn_14 lk_X9_174 ci_X9_followsOf rfl (Nat.le_of_ble_eq_true rfl) rfl rfl (Nat.le_of_ble_eq_true rfl) rfl (Nat.le_refl _) ⟨Nat.le_refl _, Nat.le_refl _⟩ h (fun v M3 h => ?_)
  obtain ⟨r4, rfl, hS, h⟩ := h
  refine wg_iconst dX9_thereIn_17 qiconst_m1 ?_
  refine wg_ixor dX9_thereIn_18 ?_
  refine wg_iand dX9_thereIn_19 ?_
  exact wp_iret rfl dX9_thereIn_20 ⟨Nat.le_refl _, Nat.le_refl _⟩ h
set_option maxRecDepth 100000 in
theorem bX9_lateSet_0 {G : GG} {d : Nat} {M : MM} {Q : Option AV → MM → Prop} (hS : ShM M) (h :
Wp G mX9_lateSet d 0 0 4 [some (vR 96), some (vI 0), some (vI 0)] [] M 0 0 Q) :
  Wp G mX9_lateSet d 0 0 0 [some (vR 96), none, none] [] M 0 0 Q := by
  refine wg_iconst dX9_lateSet_0 qiconst_0 ?_
  refine wg_istore_n (L' := [some (vR 96), some (vI 0), none]) dX9_lateSet_1 (Nat.le_of_ble_eq_true rfl) rfl ?_
  refine wg_iconst dX9_lateSet_2 qiconst_0 ?_
  refine wg_istore_n (L' := [some (vR 96), some (vI 0), some (vI 0)]) dX9_lateSet_3 (Nat.le_of_ble_eq_true rfl) rfl ?_
  exact h
set_option maxRecDepth 100000 in
theorem bX9_lateSet_4 {G : GG} {d : Nat} {M : MM} {Q : Option AV → MM → Prop} (s1 : Int) (s2 : Int) (hS : ShM M) (h :
((gI M 96 5) ≤ s2 →
(Q (some (vI s1)) M)) ∧
(¬ ((gI M 96 5) ≤ s2) →
(((0 : Int) ≤ s2 ∧ (s2 : Int) < 10) ∧
(R32 (s2 + 1) ∧
(Wp G mX9_lateSet d 0 0 4 [some (vR 96), some (vI (iorv s1 (if (gI M 100 s2.toNat) = 3 then (ishlv 1 s2 : Int) else 0))), some (vI (s2 + 1))] [] M 0 0 Q))))) :
  Wp G mX9_lateSet d 0 0 4 [some (vR 96), some (vI s1), some (vI s2)] [] M 0 0 Q := by
  refine wg_iload_n dX9_lateSet_4 rfl ?_
  refine wg_aload_n dX9_lateSet_5 rfl (Nat.succ_ne_zero _) ?_
  refine wg_getI dX9_lateSet_6 (fl_X9_74 rfl) rfl rfl ?_
  refine wg_icmp_ge dX9_lateSet_9 rfl (fun c1 => ?_) (fun c1 => ?_)
  · replace h := h.1 c1
    refine wg_iload_n dX9_lateSet_38 rfl ?_
    exact wp_iret rfl dX9_lateSet_39 ⟨Nat.le_refl _, Nat.le_refl _⟩ h
  · replace h := h.2 c1
    refine wg_iload_n dX9_lateSet_12 rfl ?_
    refine wg_aload_n dX9_lateSet_13 rfl (Nat.succ_ne_zero _) ?_
    refine wg_getRe dX9_lateSet_14 (fl_X9_19 rfl) rfl rfl (sm7 hS) ?_
    refine wg_iload_n dX9_lateSet_17 rfl ?_
    obtain ⟨o2, h⟩ := h
    refine wg_iald dX9_lateSet_18 rfl o2.1 o2.2 ?_
    refine wg_iconst dX9_lateSet_19 qiconst_3 ?_
    have hJ4 : Wp G mX9_lateSet d 0 0 30 [some (vR 96), some (vI s1), some (vI s2)] [vI (if (gI M 100 s2.toNat) = 3 then (ishlv 1 s2 : Int) else 0), vI s1] M 0 0 Q := by
      refine wg_ior dX9_lateSet_30 ?_
      refine wg_istore_n (L' := [some (vR 96), some (vI (iorv s1 (if (gI M 100 s2.toNat) = 3 then (ishlv 1 s2 : Int) else 0))), some (vI s2)]) dX9_lateSet_31 (Nat.le_of_ble_eq_true rfl) rfl ?_
      obtain ⟨o, h⟩ := h
      refine wg_iinc (L' := [some (vR 96), some (vI (iorv s1 (if (gI M 100 s2.toNat) = 3 then (ishlv 1 s2 : Int) else 0))), some (vI (s2 + 1))]) dX9_lateSet_32 (Nat.le_of_ble_eq_true rfl) rfl rfl o ?_
      refine wg_goto dX9_lateSet_35 rfl ?_
      exact h
    refine wg_icmp_ne dX9_lateSet_20 rfl (fun c3 => ?_) (fun c3 => ?_)
    · rw [show (if (gI M 100 s2.toNat) = 3 then (ishlv 1 s2 : Int) else 0) = 0 from if_neg c3] at hJ4
      refine wg_iconst dX9_lateSet_29 qiconst_0 ?_
      exact hJ4
    · rw [show (if (gI M 100 s2.toNat) = 3 then (ishlv 1 s2 : Int) else 0) = ishlv 1 s2 from if_pos c3] at hJ4
      refine wg_iconst dX9_lateSet_23 qiconst_1 ?_
      refine wg_iload_n dX9_lateSet_24 rfl ?_
      refine wg_ishl dX9_lateSet_25 ?_
      refine wg_goto dX9_lateSet_26 rfl ?_
      exact hJ4
set_option maxRecDepth 100000 in
theorem bX9_foundIn_0 {G : GG} {d : Nat} {M : MM} {Q : Option AV → MM → Prop} (a1 : Int) (hS : ShM M) (h :
Wp G mX9_foundIn (d + 1) 0 0 4 [some (vR 96), some (vI a1), some (vI 0), some (vI 0)] [] M 0 0 Q) :
  Wp G mX9_foundIn (d + 1) 0 0 0 [some (vR 96), some (vI a1), none, none] [] M 0 0 Q := by
  refine wg_iconst dX9_foundIn_0 qiconst_0 ?_
  refine wg_istore_n (L' := [some (vR 96), some (vI a1), some (vI 0), none]) dX9_foundIn_1 (Nat.le_of_ble_eq_true rfl) rfl ?_
  refine wg_iconst dX9_foundIn_2 qiconst_0 ?_
  refine wg_istore_n (L' := [some (vR 96), some (vI a1), some (vI 0), some (vI 0)]) dX9_foundIn_3 (Nat.le_of_ble_eq_true rfl) rfl ?_
  exact h
set_option maxRecDepth 100000 in
theorem bX9_foundIn_4 {G : GG} {d : Nat} {M : MM} {Q : Option AV → MM → Prop} (a1 : Int) (s2 : Int) (s3 : Int) (hS : ShM M) (h :
((gI M 96 13) ≤ s3 →
(Q (some (vI s2)) M)) ∧
(¬ ((gI M 96 13) ≤ s3) →
(R32 (a1 + 0) ∧
(R32 ((a1 + 0) + s3) ∧
(((0 : Int) ≤ (a1 + 0) + s3 ∧ ((a1 + 0) + s3 : Int) < 156) ∧
(R32 (a1 + 4) ∧
(R32 ((a1 + 4) + s3) ∧
(((0 : Int) ≤ (a1 + 4) + s3 ∧ ((a1 + 4) + s3 : Int) < 156) ∧
((2 ≤ (gI M 97 ((a1 + 4) + s3).toNat) →
(R32 (s3 + 1) ∧
(Wp G mX9_foundIn (d + 1) 0 0 4 [some (vR 96), some (vI a1), some (vI (iorv s2 (iandv (gI M 97 ((a1 + 0) + s3).toNat) (-1)))), some (vI (s3 + 1))] [] M 0 0 Q))) ∧
(¬ (2 ≤ (gI M 97 ((a1 + 4) + s3).toNat)) →
(Ok G mX9_lateSet d 0 0 [vR 96] M (fun v M5 => ∃ r6 : Int, v = some (vI r6) ∧ ShM M5 ∧ 
(R32 (s3 + 1) ∧
(Wp G mX9_foundIn (d + 1) 0 0 4 [some (vR 96), some (vI a1), some (vI (iorv s2 (iandv (gI M 97 ((a1 + 0) + s3).toNat) (ixorv r6 (-1))))), some (vI (s3 + 1))] [] M5 0 0 Q)))))))))))))) :
  Wp G mX9_foundIn (d + 1) 0 0 4 [some (vR 96), some (vI a1), some (vI s2), some (vI s3)] [] M 0 0 Q := by
  refine wg_iload_n dX9_foundIn_4 rfl ?_
  refine wg_aload_n dX9_foundIn_5 rfl (Nat.succ_ne_zero _) ?_
  refine wg_getI dX9_foundIn_6 (fl_X9_84 rfl) rfl rfl ?_
  refine wg_icmp_ge dX9_foundIn_9 rfl (fun c1 => ?_) (fun c1 => ?_)
  · replace h := h.1 c1
    refine wg_iload_n dX9_foundIn_56 rfl ?_
    exact wp_iret rfl dX9_foundIn_57 ⟨Nat.le_refl _, Nat.le_refl _⟩ h
  · replace h := h.2 c1
    refine wg_iload_n dX9_foundIn_12 rfl ?_
    refine wg_aload_n dX9_foundIn_13 rfl (Nat.succ_ne_zero _) ?_
    refine wg_getRe dX9_foundIn_14 (fl_X9_7 rfl) rfl rfl (sm0 hS) ?_
    refine wg_iload_n dX9_foundIn_17 rfl ?_
    refine wg_iconst dX9_foundIn_18 qiconst_0 ?_
    obtain ⟨o, h⟩ := h
    refine wg_iadd dX9_foundIn_19 o ?_
    refine wg_iload_n dX9_foundIn_20 rfl ?_
    obtain ⟨o, h⟩ := h
    refine wg_iadd dX9_foundIn_21 o ?_
    obtain ⟨o2, h⟩ := h
    refine wg_iald dX9_foundIn_22 rfl o2.1 o2.2 ?_
    refine wg_aload_n dX9_foundIn_23 rfl (Nat.succ_ne_zero _) ?_
    refine wg_getRe dX9_foundIn_24 (fl_X9_7 rfl) rfl rfl (sm0 hS) ?_
    refine wg_iload_n dX9_foundIn_27 rfl ?_
    refine wg_iconst dX9_foundIn_28 qiconst_4 ?_
    obtain ⟨o, h⟩ := h
    refine wg_iadd dX9_foundIn_29 o ?_
    refine wg_iload_n dX9_foundIn_30 rfl ?_
    obtain ⟨o, h⟩ := h
    refine wg_iadd dX9_foundIn_31 o ?_
    obtain ⟨o3, h⟩ := h
    refine wg_iald dX9_foundIn_32 rfl o3.1 o3.2 ?_
    refine wg_iconst dX9_foundIn_33 qiconst_2 ?_
    refine wg_icmp_ge dX9_foundIn_34 rfl (fun c4 => ?_) (fun c4 => ?_)
    · replace h := h.1 c4
      refine wg_iconst dX9_foundIn_46 qiconst_m1 ?_
      refine wg_iand dX9_foundIn_47 ?_
      refine wg_ior dX9_foundIn_48 ?_
      refine wg_istore_n (L' := [some (vR 96), some (vI a1), some (vI (iorv s2 (iandv (gI M 97 ((a1 + 0) + s3).toNat) (-1)))), some (vI s3)]) dX9_foundIn_49 (Nat.le_of_ble_eq_true rfl) rfl ?_
      obtain ⟨o, h⟩ := h
      refine wg_iinc (L' := [some (vR 96), some (vI a1), some (vI (iorv s2 (iandv (gI M 97 ((a1 + 0) + s3).toNat) (-1)))), some (vI (s3 + 1))]) dX9_foundIn_50 (Nat.le_of_ble_eq_true rfl) rfl rfl o ?_
      refine wg_goto dX9_foundIn_53 rfl ?_
      exact h
    · replace h := h.2 c4
      refine wg_aload_n dX9_foundIn_37 rfl (Nat.succ_ne_zero _) ?_
      refine wg_callV (I' := mX9_lateSet) (ci := 9) (np := 0) (d' := d) (q := 96) (as := []) (st := [vI (gI M 97 ((a1 + 0) + s3).toNat), vI s2]) dX9_foundIn_38 lk_X9_177 ci_X9_lateSet rfl (Nat.le_of_ble_eq_true rfl) rfl rfl (Nat.le_of_ble_eq_true rfl) rfl (Nat.le_refl _) ⟨Nat.le_refl _, Nat.le_refl _⟩ h (fun v M5 h => ?_)
      obtain ⟨r6, rfl, hS, h⟩ := h
      refine wg_iconst dX9_foundIn_41 qiconst_m1 ?_
      refine wg_ixor dX9_foundIn_42 ?_
      refine wg_goto dX9_foundIn_43 rfl ?_
      refine wg_iand dX9_foundIn_47 ?_
      refine wg_ior dX9_foundIn_48 ?_
      refine wg_istore_n (L' := [some (vR 96), some (vI a1), some (vI (iorv s2 (iandv (gI M 97 ((a1 + 0) + s3).toNat) (ixorv r6 (-1))))), some (vI s3)]) dX9_foundIn_49 (Nat.le_of_ble_eq_true rfl) rfl ?_
      obtain ⟨o, h⟩ := h
      refine wg_iinc (L' := [some (vR 96), some (vI a1), some (vI (iorv s2 (iandv (gI M 97 ((a1 + 0) + s3).toNat) (ixorv r6 (-1))))), some (vI (s3 + 1))]) dX9_foundIn_50 (Nat.le_of_ble_eq_true rfl) rfl rfl o ?_
      refine wg_goto dX9_foundIn_53 rfl ?_
      exact h
set_option maxRecDepth 100000 in
theorem bX9_missedBy_0 {G : GG} {d : Nat} {M : MM} {Q : Option AV → MM → Prop} (a1 : Int) (hS : ShM M) (h :
Wp G mX9_missedBy (d + 1) 0 0 4 [some (vR 96), some (vI a1), some (vI 0), some (vI 0)] [] M 0 0 Q) :
  Wp G mX9_missedBy (d + 1) 0 0 0 [some (vR 96), some (vI a1), none, none] [] M 0 0 Q := by
  refine wg_iconst dX9_missedBy_0 qiconst_0 ?_
  refine wg_istore_n (L' := [some (vR 96), some (vI a1), some (vI 0), none]) dX9_missedBy_1 (Nat.le_of_ble_eq_true rfl) rfl ?_
  refine wg_iconst dX9_missedBy_2 qiconst_0 ?_
  refine wg_istore_n (L' := [some (vR 96), some (vI a1), some (vI 0), some (vI 0)]) dX9_missedBy_3 (Nat.le_of_ble_eq_true rfl) rfl ?_
  exact h
set_option maxRecDepth 100000 in
theorem bX9_missedBy_4 {G : GG} {d : Nat} {M : MM} {Q : Option AV → MM → Prop} (a1 : Int) (s2 : Int) (s3 : Int) (hS : ShM M) (h :
((gI M 96 10) ≤ s3 →
(Q (some (vI s2)) M)) ∧
(¬ ((gI M 96 10) ≤ s3) →
(((0 : Int) ≤ s3 ∧ (s3 : Int) < 8) ∧
(Ok G mX9_has d 0 0 [vI a1, vI (gI M 102 s3.toNat)] M (fun v M3 => ∃ r4 : Int, v = some (vI r4) ∧ ShM M3 ∧ 
((r4 = 0 →
(R32 (s2 + 0) ∧
(R32 (s3 + 1) ∧
(Wp G mX9_missedBy (d + 1) 0 0 4 [some (vR 96), some (vI a1), some (vI (s2 + 0)), some (vI (s3 + 1))] [] M3 0 0 Q)))) ∧
(¬ (r4 = 0) →
((R32 (s2 + (gI M3 103 s3.toNat)) ∧
(R32 (s3 + 1) ∧
(Wp G mX9_missedBy (d + 1) 0 0 4 [some (vR 96), some (vI a1), some (vI (s2 + (gI M3 103 s3.toNat))), some (vI (s3 + 1))] [] M3 0 0 Q))))))))))) :
  Wp G mX9_missedBy (d + 1) 0 0 4 [some (vR 96), some (vI a1), some (vI s2), some (vI s3)] [] M 0 0 Q := by
  refine wg_iload_n dX9_missedBy_4 rfl ?_
  refine wg_aload_n dX9_missedBy_5 rfl (Nat.succ_ne_zero _) ?_
  refine wg_getI dX9_missedBy_6 (fl_X9_81 rfl) rfl rfl ?_
  refine wg_icmp_ge dX9_missedBy_9 rfl (fun c1 => ?_) (fun c1 => ?_)
  · replace h := h.1 c1
    refine wg_iload_n dX9_missedBy_44 rfl ?_
    exact wp_iret rfl dX9_missedBy_45 ⟨Nat.le_refl _, Nat.le_refl _⟩ h
  · replace h := h.2 c1
    refine wg_iload_n dX9_missedBy_12 rfl ?_
    refine wg_iload_n dX9_missedBy_13 rfl ?_
    refine wg_aload_n dX9_missedBy_14 rfl (Nat.succ_ne_zero _) ?_
    refine wg_getRe dX9_missedBy_15 (fl_X9_25 rfl) rfl rfl (sm11 hS) ?_
    refine wg_iload_n dX9_missedBy_18 rfl ?_
    obtain ⟨o2, h⟩ := h
    refine wg_iald dX9_missedBy_19 rfl o2.1 o2.2 ?_
    refine wg_callS (I' := mX9_has) (np := 2) (d' := d) (as := [vI a1, vI (gI M 102 s3.toNat)]) (st := [vI s2]) dX9_missedBy_20 lk_X9_166 ci_X9_has rfl rfl (Nat.le_of_ble_eq_true rfl) (Nat.le_refl _) ⟨Nat.le_refl _, Nat.le_refl _⟩ h (fun v M3 h => ?_)
    obtain ⟨r4, rfl, hS, h⟩ := h
    refine wg_if_eq dX9_missedBy_23 rfl (fun c5 => ?_) (fun c5 => ?_)
    · replace h := h.1 c5
      refine wg_iconst dX9_missedBy_35 qiconst_0 ?_
      obtain ⟨o, h⟩ := h
      refine wg_iadd dX9_missedBy_36 o ?_
      refine wg_istore_n (L' := [some (vR 96), some (vI a1), some (vI (s2 + 0)), some (vI s3)]) dX9_missedBy_37 (Nat.le_of_ble_eq_true rfl) rfl ?_
      obtain ⟨o, h⟩ := h
      refine wg_iinc (L' := [some (vR 96), some (vI a1), some (vI (s2 + 0)), some (vI (s3 + 1))]) dX9_missedBy_38 (Nat.le_of_ble_eq_true rfl) rfl rfl o ?_
      refine wg_goto dX9_missedBy_41 rfl ?_
      exact h
    · replace h := h.2 c5
      refine wg_aload_n dX9_missedBy_26 rfl (Nat.succ_ne_zero _) ?_
      refine wg_getRe dX9_missedBy_27 (fl_X9_28 rfl) rfl rfl (sm12 hS) ?_
      refine wg_iload_n dX9_missedBy_30 rfl ?_
      refine wg_iald dX9_missedBy_31 rfl o2.1 o2.2 ?_
      refine wg_goto dX9_missedBy_32 rfl ?_
      obtain ⟨o, h⟩ := h
      refine wg_iadd dX9_missedBy_36 o ?_
      refine wg_istore_n (L' := [some (vR 96), some (vI a1), some (vI (s2 + (gI M3 103 s3.toNat))), some (vI s3)]) dX9_missedBy_37 (Nat.le_of_ble_eq_true rfl) rfl ?_
      obtain ⟨o, h⟩ := h
      refine wg_iinc (L' := [some (vR 96), some (vI a1), some (vI (s2 + (gI M3 103 s3.toNat))), some (vI (s3 + 1))]) dX9_missedBy_38 (Nat.le_of_ble_eq_true rfl) rfl rfl o ?_
      refine wg_goto dX9_missedBy_41 rfl ?_
      exact h
set_option maxRecDepth 100000 in
theorem bX9_missedIn_0 {G : GG} {d : Nat} {M : MM} {Q : Option AV → MM → Prop} (a1 : Int) (hS : ShM M) (h :
Ok G mX9_foundIn d 0 0 [vR 96, vI a1] M (fun v M1 => ∃ r2 : Int, v = some (vI r2) ∧ ShM M1 ∧ 
(Ok G mX9_followsOf d 0 0 [vR 96, vI r2] M1 (fun v M3 => ∃ r4 : Int, v = some (vI r4) ∧ ShM M3 ∧ 
(Ok G mX9_missedBy d 0 0 [vR 96, vI r4] M3 (fun v M5 => ∃ r6 : Int, v = some (vI r6) ∧ ShM M5 ∧ 
(Q (some (vI r6)) M5))))))) :
  Wp G mX9_missedIn (d + 1) 0 0 0 [some (vR 96), some (vI a1)] [] M 0 0 Q := by
  refine wg_aload_n dX9_missedIn_0 rfl (Nat.succ_ne_zero _) ?_
  refine wg_aload_n dX9_missedIn_1 rfl (Nat.succ_ne_zero _) ?_
  refine wg_aload_n dX9_missedIn_2 rfl (Nat.succ_ne_zero _) ?_
  refine wg_iload_n dX9_missedIn_3 rfl ?_
  refine wg_callV (I' := mX9_foundIn) (ci := 9) (np := 1) (d' := d) (q := 96) (as := [vI a1]) (st := [vR 96, vR 96]) dX9_missedIn_4 lk_X9_180 ci_X9_foundIn rfl (Nat.le_of_ble_eq_true rfl) rfl rfl (Nat.le_of_ble_eq_true rfl) rfl (Nat.le_refl _) ⟨Nat.le_refl _, Nat.le_refl _⟩ h (fun v M1 h => ?_)
  obtain ⟨r2, rfl, hS, h⟩ := h
  refine wg_callV (I' := mX9_followsOf) (ci := 9) (np := 1) (d' := d) (q := 96) (as := [vI r2]) (st := [vR 96]) dX9_missedIn_7 lk_X9_174 ci_X9_followsOf rfl (Nat.le_of_ble_eq_true rfl) rfl rfl (Nat.le_of_ble_eq_true rfl) rfl (Nat.le_refl _) ⟨Nat.le_refl _, Nat.le_refl _⟩ h (fun v M3 h => ?_)
  obtain ⟨r4, rfl, hS, h⟩ := h
  refine wg_callV (I' := mX9_missedBy) (ci := 9) (np := 1) (d' := d) (q := 96) (as := [vI r4]) (st := []) dX9_missedIn_10 lk_X9_183 ci_X9_missedBy rfl (Nat.le_of_ble_eq_true rfl) rfl rfl (Nat.le_of_ble_eq_true rfl) rfl (Nat.le_refl _) ⟨Nat.le_refl _, Nat.le_refl _⟩ h (fun v M5 h => ?_)
  obtain ⟨r6, rfl, hS, h⟩ := h
  exact wp_iret rfl dX9_missedIn_13 ⟨Nat.le_refl _, Nat.le_refl _⟩ h
set_option maxRecDepth 100000 in
theorem bX9_costIn_0 {G : GG} {d : Nat} {M : MM} {Q : Option AV → MM → Prop} (a1 : Int) (a2 : Int) (hS : ShM M) (h :
Ok G mX9_goneIn d 0 0 [vR 96, vI a1] M (fun v M1 => ∃ r2 : Int, v = some (vI r2) ∧ ShM M1 ∧ 
(Ok G mX9_followsOf d 0 0 [vR 96, vI (iorv r2 a2)] M1 (fun v M3 => ∃ r4 : Int, v = some (vI r4) ∧ ShM M3 ∧ 
(Ok G mX9_missedBy d 0 0 [vR 96, vI r4] M3 (fun v M5 => ∃ r6 : Int, v = some (vI r6) ∧ ShM M5 ∧ 
(Ok G mX9_followsOf d 0 0 [vR 96, vI r2] M5 (fun v M7 => ∃ r8 : Int, v = some (vI r8) ∧ ShM M7 ∧ 
(Ok G mX9_missedBy d 0 0 [vR 96, vI r8] M7 (fun v M9 => ∃ r10 : Int, v = some (vI r10) ∧ ShM M9 ∧ 
(R32 (r6 - r10) ∧
(Q (some (vI (r6 - r10))) M9)))))))))))) :
  Wp G mX9_costIn (d + 1) 0 0 0 [some (vR 96), some (vI a1), some (vI a2), none] [] M 0 0 Q := by
  refine wg_aload_n dX9_costIn_0 rfl (Nat.succ_ne_zero _) ?_
  refine wg_iload_n dX9_costIn_1 rfl ?_
  refine wg_callV (I' := mX9_goneIn) (ci := 9) (np := 1) (d' := d) (q := 96) (as := [vI a1]) (st := []) dX9_costIn_2 lk_X9_170 ci_X9_goneIn rfl (Nat.le_of_ble_eq_true rfl) rfl rfl (Nat.le_of_ble_eq_true rfl) rfl (Nat.le_refl _) ⟨Nat.le_refl _, Nat.le_refl _⟩ h (fun v M1 h => ?_)
  obtain ⟨r2, rfl, hS, h⟩ := h
  refine wg_istore_n (L' := [some (vR 96), some (vI a1), some (vI a2), some (vI r2)]) dX9_costIn_5 (Nat.le_of_ble_eq_true rfl) rfl ?_
  refine wg_aload_n dX9_costIn_6 rfl (Nat.succ_ne_zero _) ?_
  refine wg_aload_n dX9_costIn_7 rfl (Nat.succ_ne_zero _) ?_
  refine wg_iload_n dX9_costIn_8 rfl ?_
  refine wg_iload_n dX9_costIn_9 rfl ?_
  refine wg_ior dX9_costIn_10 ?_
  refine wg_callV (I' := mX9_followsOf) (ci := 9) (np := 1) (d' := d) (q := 96) (as := [vI (iorv r2 a2)]) (st := [vR 96]) dX9_costIn_11 lk_X9_174 ci_X9_followsOf rfl (Nat.le_of_ble_eq_true rfl) rfl rfl (Nat.le_of_ble_eq_true rfl) rfl (Nat.le_refl _) ⟨Nat.le_refl _, Nat.le_refl _⟩ h (fun v M3 h => ?_)
  obtain ⟨r4, rfl, hS, h⟩ := h
  refine wg_callV (I' := mX9_missedBy) (ci := 9) (np := 1) (d' := d) (q := 96) (as := [vI r4]) (st := []) dX9_costIn_14 lk_X9_183 ci_X9_missedBy rfl (Nat.le_of_ble_eq_true rfl) rfl rfl (Nat.le_of_ble_eq_true rfl) rfl (Nat.le_refl _) ⟨Nat.le_refl _, Nat.le_refl _⟩ h (fun v M5 h => ?_)
  obtain ⟨r6, rfl, hS, h⟩ := h
  refine wg_aload_n dX9_costIn_17 rfl (Nat.succ_ne_zero _) ?_
  refine wg_aload_n dX9_costIn_18 rfl (Nat.succ_ne_zero _) ?_
  refine wg_iload_n dX9_costIn_19 rfl ?_
  refine wg_callV (I' := mX9_followsOf) (ci := 9) (np := 1) (d' := d) (q := 96) (as := [vI r2]) (st := [vR 96, vI r6]) dX9_costIn_20 lk_X9_174 ci_X9_followsOf rfl (Nat.le_of_ble_eq_true rfl) rfl rfl (Nat.le_of_ble_eq_true rfl) rfl (Nat.le_refl _) ⟨Nat.le_refl _, Nat.le_refl _⟩ h (fun v M7 h => ?_)
  obtain ⟨r8, rfl, hS, h⟩ := h
  refine wg_callV (I' := mX9_missedBy) (ci := 9) (np := 1) (d' := d) (q := 96) (as := [vI r8]) (st := [vI r6]) dX9_costIn_23 lk_X9_183 ci_X9_missedBy rfl (Nat.le_of_ble_eq_true rfl) rfl rfl (Nat.le_of_ble_eq_true rfl) rfl (Nat.le_refl _) ⟨Nat.le_refl _, Nat.le_refl _⟩ h (fun v M9 h => ?_)
  obtain ⟨r10, rfl, hS, h⟩ := h
  obtain ⟨o, h⟩ := h
  refine wg_isub dX9_costIn_26 o ?_
  exact wp_iret rfl dX9_costIn_27 ⟨Nat.le_refl _, Nat.le_refl _⟩ h
set_option maxRecDepth 100000 in
theorem bX9_thing_0 {G : GG} {d : Nat} {M : MM} {Q : Option AV → MM → Prop} (a1 : Int) (a2 : Int) (hS : ShM M) (h :
Ok G mX9_isThing d 0 0 [vR 96, vI a1] M (fun v M1 => ∃ r2 : Int, v = some (vI r2) ∧ ShM M1 ∧ 
((r2 ≠ 0 →
(Wp G mX9_thing (d + 1) 0 0 16 [some (vR 96), some (vI a1), some (vI a2), some (vI (-4)), some (vI 0)] [] M1 0 0 Q)) ∧
(r2 = 0 →
(Q (some (vI (-1))) M1))))) :
  Wp G mX9_thing (d + 1) 0 0 0 [some (vR 96), some (vI a1), some (vI a2), none, none] [] M 0 0 Q := by
  refine wg_aload_n dX9_thing_0 rfl (Nat.succ_ne_zero _) ?_
  refine wg_iload_n dX9_thing_1 rfl ?_
  refine wg_callV (I' := mX9_isThing) (ci := 9) (np := 1) (d' := d) (q := 96) (as := [vI a1]) (st := []) dX9_thing_2 lk_X9_186 ci_X9_isThing rfl (Nat.le_of_ble_eq_true rfl) rfl rfl (Nat.le_of_ble_eq_true rfl) rfl (Nat.le_refl _) ⟨Nat.le_refl _, Nat.le_refl _⟩ h (fun v M1 h => ?_)
  obtain ⟨r2, rfl, hS, h⟩ := h
  refine wg_if_ne dX9_thing_5 rfl (fun c3 => ?_) (fun c3 => ?_)
  · replace h := h.1 c3
    refine wg_bipush dX9_thing_10 qbipush_m4 ?_
    refine wg_istore_n (L' := [some (vR 96), some (vI a1), some (vI a2), some (vI (-4)), none]) dX9_thing_12 (Nat.le_of_ble_eq_true rfl) rfl ?_
    refine wg_iconst dX9_thing_13 qiconst_0 ?_
    refine wg_istore (L' := [some (vR 96), some (vI a1), some (vI a2), some (vI (-4)), some (vI 0)]) dX9_thing_14 (Nat.le_of_ble_eq_true rfl) rfl ?_
    exact h
  · replace h := h.2 c3
    refine wg_iconst dX9_thing_8 qiconst_m1 ?_
    exact wp_iret rfl dX9_thing_9 ⟨Nat.le_refl _, Nat.le_refl _⟩ h
set_option maxRecDepth 100000 in
theorem bX9_thing_16 {G : GG} {d : Nat} {M : MM} {Q : Option AV → MM → Prop} (a1 : Int) (a2 : Int) (s3 : Int) (s4 : Int) (hS : ShM M) (h :
((gI M 96 13) ≤ s4 →
((a2 ≠ 0 →
((a2 ≠ 1 →
((a2 ≠ 2 →
(Q (some (vI (if a2 = 3 then (s3 : Int) else (-1)))) M)) ∧
(a2 = 2 →
(Ok G mX9_thereIn d 0 0 [vR 96, vI 0] M (fun v M7 => ∃ r8 : Int, v = some (vI r8) ∧ ShM M7 ∧ 
(Q (some (vI (iandv (ishrv r8 a1) 1))) M7)))))) ∧
(a2 = 1 →
(((0 : Int) ≤ a1 ∧ (a1 : Int) < 10) ∧
(Q (some (vI (gI M 100 a1.toNat))) M))))) ∧
(a2 = 0 →
(((0 : Int) ≤ a1 ∧ (a1 : Int) < 10) ∧
(Q (some (vI (gI M 99 a1.toNat))) M))))) ∧
(¬ ((gI M 96 13) ≤ s4) →
(R32 (0 + s4) ∧
(((0 : Int) ≤ 0 + s4 ∧ (0 + s4 : Int) < 156) ∧
(Ok G mX9_has d 0 0 [vI (gI M 97 (0 + s4).toNat), vI a1] M (fun v M12 => ∃ r13 : Int, v = some (vI r13) ∧ ShM M12 ∧ 
(R32 (s4 + 1) ∧
(Wp G mX9_thing (d + 1) 0 0 16 [some (vR 96), some (vI a1), some (vI a2), some (vI (if r13 = 0 then (s3 : Int) else s4)), some (vI (s4 + 1))] [] M12 0 0 Q)))))))) :
  Wp G mX9_thing (d + 1) 0 0 16 [some (vR 96), some (vI a1), some (vI a2), some (vI s3), some (vI s4)] [] M 0 0 Q := by
  refine wg_iload dX9_thing_16 rfl ?_
  refine wg_aload_n dX9_thing_18 rfl (Nat.succ_ne_zero _) ?_
  refine wg_getI dX9_thing_19 (fl_X9_84 rfl) rfl rfl ?_
  refine wg_icmp_ge dX9_thing_22 rfl (fun c1 => ?_) (fun c1 => ?_)
  · replace h := h.1 c1
    refine wg_iload_n dX9_thing_54 rfl ?_
    refine wg_if_ne dX9_thing_55 rfl (fun c2 => ?_) (fun c2 => ?_)
    · replace h := h.1 c2
      refine wg_iload_n dX9_thing_67 rfl ?_
      refine wg_iconst dX9_thing_68 qiconst_1 ?_
      refine wg_icmp_ne dX9_thing_69 rfl (fun c3 => ?_) (fun c3 => ?_)
      · replace h := h.1 c3
        refine wg_iload_n dX9_thing_81 rfl ?_
        refine wg_iconst dX9_thing_82 qiconst_2 ?_
        refine wg_icmp_ne dX9_thing_83 rfl (fun c4 => ?_) (fun c4 => ?_)
        · replace h := h.1 c4
          refine wg_iload_n dX9_thing_98 rfl ?_
          refine wg_iconst dX9_thing_99 qiconst_3 ?_
          have hJ6 : Wp G mX9_thing (d + 1) 0 0 108 [some (vR 96), some (vI a1), some (vI a2), some (vI s3), some (vI s4)] [vI (if a2 = 3 then (s3 : Int) else (-1))] M 0 0 Q := by
            exact wp_iret rfl dX9_thing_108 ⟨Nat.le_refl _, Nat.le_refl _⟩ h
          refine wg_icmp_ne dX9_thing_100 rfl (fun c5 => ?_) (fun c5 => ?_)
          · rw [show (if a2 = 3 then (s3 : Int) else (-1)) = (-1) from if_neg c5] at hJ6
            refine wg_iconst dX9_thing_107 qiconst_m1 ?_
            exact hJ6
          · rw [show (if a2 = 3 then (s3 : Int) else (-1)) = s3 from if_pos c5] at hJ6
            refine wg_iload_n dX9_thing_103 rfl ?_
            refine wg_goto dX9_thing_104 rfl ?_
            exact hJ6
        · replace h := h.2 c4
          refine wg_aload_n dX9_thing_86 rfl (Nat.succ_ne_zero _) ?_
          refine wg_iconst dX9_thing_87 qiconst_0 ?_
          refine wg_callV (I' := mX9_thereIn) (ci := 9) (np := 1) (d' := d) (q := 96) (as := [vI 0]) (st := []) dX9_thing_88 lk_X9_189 ci_X9_thereIn rfl (Nat.le_of_ble_eq_true rfl) rfl rfl (Nat.le_of_ble_eq_true rfl) rfl (Nat.le_refl _) ⟨Nat.le_refl _, Nat.le_refl _⟩ h (fun v M7 h => ?_)
          obtain ⟨r8, rfl, hS, h⟩ := h
          refine wg_iload_n dX9_thing_91 rfl ?_
          refine wg_ishr dX9_thing_92 ?_
          refine wg_iconst dX9_thing_93 qiconst_1 ?_
          refine wg_iand dX9_thing_94 ?_
          refine wg_goto dX9_thing_95 rfl ?_
          exact wp_iret rfl dX9_thing_108 ⟨Nat.le_refl _, Nat.le_refl _⟩ h
      · replace h := h.2 c3
        refine wg_aload_n dX9_thing_72 rfl (Nat.succ_ne_zero _) ?_
        refine wg_getRe dX9_thing_73 (fl_X9_19 rfl) rfl rfl (sm7 hS) ?_
        refine wg_iload_n dX9_thing_76 rfl ?_
        obtain ⟨o9, h⟩ := h
        refine wg_iald dX9_thing_77 rfl o9.1 o9.2 ?_
        refine wg_goto dX9_thing_78 rfl ?_
        exact wp_iret rfl dX9_thing_108 ⟨Nat.le_refl _, Nat.le_refl _⟩ h
    · replace h := h.2 c2
      refine wg_aload_n dX9_thing_58 rfl (Nat.succ_ne_zero _) ?_
      refine wg_getRe dX9_thing_59 (fl_X9_16 rfl) rfl rfl (sm6 hS) ?_
      refine wg_iload_n dX9_thing_62 rfl ?_
      obtain ⟨o10, h⟩ := h
      refine wg_iald dX9_thing_63 rfl o10.1 o10.2 ?_
      refine wg_goto dX9_thing_64 rfl ?_
      exact wp_iret rfl dX9_thing_108 ⟨Nat.le_refl _, Nat.le_refl _⟩ h
  · replace h := h.2 c1
    refine wg_aload_n dX9_thing_25 rfl (Nat.succ_ne_zero _) ?_
    refine wg_getRe dX9_thing_26 (fl_X9_7 rfl) rfl rfl (sm0 hS) ?_
    refine wg_iconst dX9_thing_29 qiconst_0 ?_
    refine wg_iload dX9_thing_30 rfl ?_
    obtain ⟨o, h⟩ := h
    refine wg_iadd dX9_thing_32 o ?_
    obtain ⟨o11, h⟩ := h
    refine wg_iald dX9_thing_33 rfl o11.1 o11.2 ?_
    refine wg_iload_n dX9_thing_34 rfl ?_
    refine wg_callS (I' := mX9_has) (np := 2) (d' := d) (as := [vI (gI M 97 (0 + s4).toNat), vI a1]) (st := []) dX9_thing_35 lk_X9_166 ci_X9_has rfl rfl (Nat.le_of_ble_eq_true rfl) (Nat.le_refl _) ⟨Nat.le_refl _, Nat.le_refl _⟩ h (fun v M12 h => ?_)
    obtain ⟨r13, rfl, hS, h⟩ := h
    have hJ15 : Wp G mX9_thing (d + 1) 0 0 47 [some (vR 96), some (vI a1), some (vI a2), some (vI s3), some (vI s4)] [vI (if r13 = 0 then (s3 : Int) else s4)] M12 0 0 Q := by
      refine wg_istore_n (L' := [some (vR 96), some (vI a1), some (vI a2), some (vI (if r13 = 0 then (s3 : Int) else s4)), some (vI s4)]) dX9_thing_47 (Nat.le_of_ble_eq_true rfl) rfl ?_
      obtain ⟨o, h⟩ := h
      refine wg_iinc (L' := [some (vR 96), some (vI a1), some (vI a2), some (vI (if r13 = 0 then (s3 : Int) else s4)), some (vI (s4 + 1))]) dX9_thing_48 (Nat.le_of_ble_eq_true rfl) rfl rfl o ?_
      refine wg_goto dX9_thing_51 rfl ?_
      exact h
    refine wg_if_eq dX9_thing_38 rfl (fun c14 => ?_) (fun c14 => ?_)
    · rw [show (if r13 = 0 then (s3 : Int) else s4) = s3 from if_pos c14] at hJ15
      refine wg_iload_n dX9_thing_46 rfl ?_
      exact hJ15
    · rw [show (if r13 = 0 then (s3 : Int) else s4) = s4 from if_neg c14] at hJ15
      refine wg_iload dX9_thing_41 rfl ?_
      refine wg_goto dX9_thing_43 rfl ?_
      exact hJ15
set_option maxRecDepth 100000 in
theorem bX9_person_0 {G : GG} {d : Nat} {M : MM} {Q : Option AV → MM → Prop} (a1 : Int) (a2 : Int) (hS : ShM M) (h :
R32 ((gI M 96 10) - 1) ∧
(Ok G mX9_in d 0 0 [vL a1, vL 0, vL ((gI M 96 10) - 1)] M (fun v M1 => ∃ r2 : Int, v = some (vI r2) ∧ ShM M1 ∧ 
((r2 ≠ 0 →
((a2 ≠ 0 →
((a2 ≠ 1 →
((a2 ≠ 2 →
(Q (some (vI (-1))) M1)) ∧
(a2 = 2 →
(Ok G mX9_foundIn d 0 0 [vR 96, vI 0] M1 (fun v M7 => ∃ r8 : Int, v = some (vI r8) ∧ ShM M7 ∧ 
(Ok G mX9_followsOf d 0 0 [vR 96, vI r8] M7 (fun v M9 => ∃ r10 : Int, v = some (vI r10) ∧ ShM M9 ∧ 
(((0 : Int) ≤ a1 ∧ (a1 : Int) < 8) ∧
(Q (some (vI (iandv (ishrv r10 (gI M9 102 a1.toNat)) 1))) M9))))))))) ∧
(a2 = 1 →
(((0 : Int) ≤ a1 ∧ (a1 : Int) < 8) ∧
(Q (some (vI (gI M1 103 a1.toNat))) M1))))) ∧
(a2 = 0 →
(((0 : Int) ≤ a1 ∧ (a1 : Int) < 8) ∧
(Q (some (vI (gI M1 102 a1.toNat))) M1))))) ∧
(r2 = 0 →
(Q (some (vI (-1))) M1)))))) :
  Wp G mX9_person (d + 1) 0 0 0 [some (vR 96), some (vI a1), some (vI a2)] [] M 0 0 Q := by
  refine wg_iload_n dX9_person_0 rfl ?_
  refine wg_i2l dX9_person_1 ?_
  refine wg_lconst dX9_person_2 rfl ?_
  refine wg_aload_n dX9_person_3 rfl (Nat.succ_ne_zero _) ?_
  refine wg_getI dX9_person_4 (fl_X9_81 rfl) rfl rfl ?_
  refine wg_iconst dX9_person_7 qiconst_1 ?_
  obtain ⟨o, h⟩ := h
  refine wg_isub dX9_person_8 o ?_
  refine wg_i2l dX9_person_9 ?_
  refine wg_callS (I' := mX9_in) (np := 3) (d' := d) (as := [vL a1, vL 0, vL ((gI M 96 10) - 1)]) (st := []) dX9_person_10 lk_X9_100 ci_X9_in rfl rfl (Nat.le_of_ble_eq_true rfl) (Nat.le_refl _) ⟨Nat.le_refl _, Nat.le_refl _⟩ h (fun v M1 h => ?_)
  obtain ⟨r2, rfl, hS, h⟩ := h
  refine wg_if_ne dX9_person_13 rfl (fun c3 => ?_) (fun c3 => ?_)
  · replace h := h.1 c3
    refine wg_iload_n dX9_person_18 rfl ?_
    refine wg_if_ne dX9_person_19 rfl (fun c4 => ?_) (fun c4 => ?_)
    · replace h := h.1 c4
      refine wg_iload_n dX9_person_31 rfl ?_
      refine wg_iconst dX9_person_32 qiconst_1 ?_
      refine wg_icmp_ne dX9_person_33 rfl (fun c5 => ?_) (fun c5 => ?_)
      · replace h := h.1 c5
        refine wg_iload_n dX9_person_45 rfl ?_
        refine wg_iconst dX9_person_46 qiconst_2 ?_
        refine wg_icmp_ne dX9_person_47 rfl (fun c6 => ?_) (fun c6 => ?_)
        · replace h := h.1 c6
          refine wg_iconst dX9_person_71 qiconst_m1 ?_
          exact wp_iret rfl dX9_person_72 ⟨Nat.le_refl _, Nat.le_refl _⟩ h
        · replace h := h.2 c6
          refine wg_aload_n dX9_person_50 rfl (Nat.succ_ne_zero _) ?_
          refine wg_aload_n dX9_person_51 rfl (Nat.succ_ne_zero _) ?_
          refine wg_iconst dX9_person_52 qiconst_0 ?_
          refine wg_callV (I' := mX9_foundIn) (ci := 9) (np := 1) (d' := d) (q := 96) (as := [vI 0]) (st := [vR 96]) dX9_person_53 lk_X9_180 ci_X9_foundIn rfl (Nat.le_of_ble_eq_true rfl) rfl rfl (Nat.le_of_ble_eq_true rfl) rfl (Nat.le_refl _) ⟨Nat.le_refl _, Nat.le_refl _⟩ h (fun v M7 h => ?_)
          obtain ⟨r8, rfl, hS, h⟩ := h
          refine wg_callV (I' := mX9_followsOf) (ci := 9) (np := 1) (d' := d) (q := 96) (as := [vI r8]) (st := []) dX9_person_56 lk_X9_174 ci_X9_followsOf rfl (Nat.le_of_ble_eq_true rfl) rfl rfl (Nat.le_of_ble_eq_true rfl) rfl (Nat.le_refl _) ⟨Nat.le_refl _, Nat.le_refl _⟩ h (fun v M9 h => ?_)
          obtain ⟨r10, rfl, hS, h⟩ := h
          refine wg_aload_n dX9_person_59 rfl (Nat.succ_ne_zero _) ?_
          refine wg_getRe dX9_person_60 (fl_X9_25 rfl) rfl rfl (sm11 hS) ?_
          refine wg_iload_n dX9_person_63 rfl ?_
          obtain ⟨o11, h⟩ := h
          refine wg_iald dX9_person_64 rfl o11.1 o11.2 ?_
          refine wg_ishr dX9_person_65 ?_
          refine wg_iconst dX9_person_66 qiconst_1 ?_
          refine wg_iand dX9_person_67 ?_
          refine wg_goto dX9_person_68 rfl ?_
          exact wp_iret rfl dX9_person_72 ⟨Nat.le_refl _, Nat.le_refl _⟩ h
      · replace h := h.2 c5
        refine wg_aload_n dX9_person_36 rfl (Nat.succ_ne_zero _) ?_
        refine wg_getRe dX9_person_37 (fl_X9_28 rfl) rfl rfl (sm12 hS) ?_
        refine wg_iload_n dX9_person_40 rfl ?_
        obtain ⟨o12, h⟩ := h
        refine wg_iald dX9_person_41 rfl o12.1 o12.2 ?_
        refine wg_goto dX9_person_42 rfl ?_
        exact wp_iret rfl dX9_person_72 ⟨Nat.le_refl _, Nat.le_refl _⟩ h
    · replace h := h.2 c4
      refine wg_aload_n dX9_person_22 rfl (Nat.succ_ne_zero _) ?_
      refine wg_getRe dX9_person_23 (fl_X9_25 rfl) rfl rfl (sm11 hS) ?_
      refine wg_iload_n dX9_person_26 rfl ?_
      obtain ⟨o13, h⟩ := h
      refine wg_iald dX9_person_27 rfl o13.1 o13.2 ?_
      refine wg_goto dX9_person_28 rfl ?_
      exact wp_iret rfl dX9_person_72 ⟨Nat.le_refl _, Nat.le_refl _⟩ h
  · replace h := h.2 c3
    refine wg_iconst dX9_person_16 qiconst_m1 ?_
    exact wp_iret rfl dX9_person_17 ⟨Nat.le_refl _, Nat.le_refl _⟩ h
set_option maxRecDepth 100000 in
theorem bX9_beast_0 {G : GG} {d : Nat} {M : MM} {Q : Option AV → MM → Prop} (a1 : Int) (a2 : Int) (hS : ShM M) (h :
Ok G mX9_isBeast d 0 0 [vR 96, vI a1] M (fun v M1 => ∃ r2 : Int, v = some (vI r2) ∧ ShM M1 ∧ 
((r2 ≠ 0 →
((a2 = 0 →
(((0 : Int) ≤ a1 ∧ (a1 : Int) < 4) ∧
(Q (some (vI (gI M1 104 a1.toNat))) M1))) ∧
(a2 = 1 →
(R32 (0 + a1) ∧
(((0 : Int) ≤ 0 + a1 ∧ (0 + a1 : Int) < 156) ∧
(Q (some (vI (gI M1 97 (0 + a1).toNat))) M1)))) ∧
(a2 = 2 →
(R32 (0 + a1) ∧
(((0 : Int) ≤ 0 + a1 ∧ (0 + a1 : Int) < 156) ∧
(((gI M1 97 (0 + a1).toNat) ≠ 0 →
(R32 (4 + a1) ∧
(((0 : Int) ≤ 4 + a1 ∧ (4 + a1 : Int) < 156) ∧
(Q (some (vI (gI M1 97 (4 + a1).toNat))) M1)))) ∧
((gI M1 97 (0 + a1).toNat) = 0 →
(Q (some (vI (-4))) M1)))))) ∧
(a2 = 3 →
(R32 (8 + a1) ∧
(((0 : Int) ≤ 8 + a1 ∧ (8 + a1 : Int) < 156) ∧
(Q (some (vI (gI M1 97 (8 + a1).toNat))) M1)))) ∧
((a2 < 0 ∨ 3 < a2) →
(Q (some (vI (-1))) M1)))) ∧
(r2 = 0 →
(Q (some (vI (-1))) M1))))) :
  Wp G mX9_beast (d + 1) 0 0 0 [some (vR 96), some (vI a1), some (vI a2)] [] M 0 0 Q := by
  refine wg_aload_n dX9_beast_0 rfl (Nat.succ_ne_zero _) ?_
  refine wg_iload_n dX9_beast_1 rfl ?_
  refine wg_callV (I' := mX9_isBeast) (ci := 9) (np := 1) (d' := d) (q := 96) (as := [vI a1]) (st := []) dX9_beast_2 lk_X9_192 ci_X9_isBeast rfl (Nat.le_of_ble_eq_true rfl) rfl rfl (Nat.le_of_ble_eq_true rfl) rfl (Nat.le_refl _) ⟨Nat.le_refl _, Nat.le_refl _⟩ h (fun v M1 h => ?_)
  obtain ⟨r2, rfl, hS, h⟩ := h
  refine wg_if_ne dX9_beast_5 rfl (fun c3 => ?_) (fun c3 => ?_)
  · replace h := h.1 c3
    refine wg_iload_n dX9_beast_10 rfl ?_
    by_cases c0 : a2 = 0
    · replace h := h.1 c0
      refine wg_tableIn dX9_beast_11 (by omega) (by omega) (off := 29) (by rw [c0]; decide) rfl ?_
      refine wg_aload_n dX9_beast_40 rfl (Nat.succ_ne_zero _) ?_
      refine wg_getRe dX9_beast_41 (fl_X9_31 rfl) rfl rfl (sm14 hS) ?_
      refine wg_iload_n dX9_beast_44 rfl ?_
      obtain ⟨o4, h⟩ := h
      refine wg_iald dX9_beast_45 rfl o4.1 o4.2 ?_
      exact wp_iret rfl dX9_beast_46 ⟨Nat.le_refl _, Nat.le_refl _⟩ h
    by_cases c1 : a2 = 1
    · replace h := h.2.1 c1
      refine wg_tableIn dX9_beast_11 (by omega) (by omega) (off := 36) (by rw [c1]; decide) rfl ?_
      refine wg_aload_n dX9_beast_47 rfl (Nat.succ_ne_zero _) ?_
      refine wg_getRe dX9_beast_48 (fl_X9_7 rfl) rfl rfl (sm0 hS) ?_
      refine wg_iconst dX9_beast_51 qiconst_0 ?_
      refine wg_iload_n dX9_beast_52 rfl ?_
      obtain ⟨o, h⟩ := h
      refine wg_iadd dX9_beast_53 o ?_
      obtain ⟨o5, h⟩ := h
      refine wg_iald dX9_beast_54 rfl o5.1 o5.2 ?_
      exact wp_iret rfl dX9_beast_55 ⟨Nat.le_refl _, Nat.le_refl _⟩ h
    by_cases c2 : a2 = 2
    · replace h := h.2.2.1 c2
      refine wg_tableIn dX9_beast_11 (by omega) (by omega) (off := 45) (by rw [c2]; decide) rfl ?_
      refine wg_aload_n dX9_beast_56 rfl (Nat.succ_ne_zero _) ?_
      refine wg_getRe dX9_beast_57 (fl_X9_7 rfl) rfl rfl (sm0 hS) ?_
      refine wg_iconst dX9_beast_60 qiconst_0 ?_
      refine wg_iload_n dX9_beast_61 rfl ?_
      obtain ⟨o, h⟩ := h
      refine wg_iadd dX9_beast_62 o ?_
      obtain ⟨o6, h⟩ := h
      refine wg_iald dX9_beast_63 rfl o6.1 o6.2 ?_
      refine wg_if_ne dX9_beast_64 rfl (fun c7 => ?_) (fun c7 => ?_)
      · replace h := h.1 c7
        refine wg_aload_n dX9_beast_72 rfl (Nat.succ_ne_zero _) ?_
        refine wg_getRe dX9_beast_73 (fl_X9_7 rfl) rfl rfl (sm0 hS) ?_
        refine wg_iconst dX9_beast_76 qiconst_4 ?_
        refine wg_iload_n dX9_beast_77 rfl ?_
        obtain ⟨o, h⟩ := h
        refine wg_iadd dX9_beast_78 o ?_
        obtain ⟨o8, h⟩ := h
        refine wg_iald dX9_beast_79 rfl o8.1 o8.2 ?_
        exact wp_iret rfl dX9_beast_80 ⟨Nat.le_refl _, Nat.le_refl _⟩ h
      · replace h := h.2 c7
        refine wg_bipush dX9_beast_67 qbipush_m4 ?_
        refine wg_goto dX9_beast_69 rfl ?_
        exact wp_iret rfl dX9_beast_80 ⟨Nat.le_refl _, Nat.le_refl _⟩ h
    by_cases c3 : a2 = 3
    · replace h := h.2.2.2.1 c3
      refine wg_tableIn dX9_beast_11 (by omega) (by omega) (off := 70) (by rw [c3]; decide) rfl ?_
      refine wg_aload_n dX9_beast_81 rfl (Nat.succ_ne_zero _) ?_
      refine wg_getRe dX9_beast_82 (fl_X9_7 rfl) rfl rfl (sm0 hS) ?_
      refine wg_bipush dX9_beast_85 qbipush_8 ?_
      refine wg_iload_n dX9_beast_87 rfl ?_
      obtain ⟨o, h⟩ := h
      refine wg_iadd dX9_beast_88 o ?_
      obtain ⟨o9, h⟩ := h
      refine wg_iald dX9_beast_89 rfl o9.1 o9.2 ?_
      exact wp_iret rfl dX9_beast_90 ⟨Nat.le_refl _, Nat.le_refl _⟩ h
    have hc : a2 < 0 ∨ 3 < a2 := by omega
    replace h := h.2.2.2.2 hc
    refine wg_tableOut dX9_beast_11 hc rfl ?_
    refine wg_iconst dX9_beast_91 qiconst_m1 ?_
    exact wp_iret rfl dX9_beast_92 ⟨Nat.le_refl _, Nat.le_refl _⟩ h
  · replace h := h.2 c3
    refine wg_iconst dX9_beast_8 qiconst_m1 ?_
    exact wp_iret rfl dX9_beast_9 ⟨Nat.le_refl _, Nat.le_refl _⟩ h
set_option maxRecDepth 100000 in
theorem bX9_strength_0 {G : GG} {d : Nat} {M : MM} {Q : Option AV → MM → Prop} (a1 : Int) (hS : ShM M) (h :
Ok G mX9_isSet d 0 0 [vR 96, vI a1] M (fun v M1 => ∃ r2 : Int, v = some (vI r2) ∧ ShM M1 ∧ 
((r2 = 0 →
(Q (some (vI (-1))) M1)) ∧
(¬ (r2 = 0) →
(Ok G mX9_strengthOf d 0 0 [vR 96, vI a1] M1 (fun v M4 => ∃ r5 : Int, v = some (vI r5) ∧ ShM M4 ∧ 
(Q (some (vI r5)) M4))))))) :
  Wp G mX9_strength (d + 1) 0 0 0 [some (vR 96), some (vI a1)] [] M 0 0 Q := by
  refine wg_aload_n dX9_strength_0 rfl (Nat.succ_ne_zero _) ?_
  refine wg_iload_n dX9_strength_1 rfl ?_
  refine wg_callV (I' := mX9_isSet) (ci := 9) (np := 1) (d' := d) (q := 96) (as := [vI a1]) (st := []) dX9_strength_2 lk_X9_195 ci_X9_isSet rfl (Nat.le_of_ble_eq_true rfl) rfl rfl (Nat.le_of_ble_eq_true rfl) rfl (Nat.le_refl _) ⟨Nat.le_refl _, Nat.le_refl _⟩ h (fun v M1 h => ?_)
  obtain ⟨r2, rfl, hS, h⟩ := h
  refine wg_if_eq dX9_strength_5 rfl (fun c3 => ?_) (fun c3 => ?_)
  · replace h := h.1 c3
    refine wg_iconst dX9_strength_16 qiconst_m1 ?_
    exact wp_iret rfl dX9_strength_17 ⟨Nat.le_refl _, Nat.le_refl _⟩ h
  · replace h := h.2 c3
    refine wg_aload_n dX9_strength_8 rfl (Nat.succ_ne_zero _) ?_
    refine wg_iload_n dX9_strength_9 rfl ?_
    refine wg_callV (I' := mX9_strengthOf) (ci := 9) (np := 1) (d' := d) (q := 96) (as := [vI a1]) (st := []) dX9_strength_10 lk_X9_198 ci_X9_strengthOf rfl (Nat.le_of_ble_eq_true rfl) rfl rfl (Nat.le_of_ble_eq_true rfl) rfl (Nat.le_refl _) ⟨Nat.le_refl _, Nat.le_refl _⟩ h (fun v M4 h => ?_)
    obtain ⟨r5, rfl, hS, h⟩ := h
    refine wg_goto dX9_strength_13 rfl ?_
    exact wp_iret rfl dX9_strength_17 ⟨Nat.le_refl _, Nat.le_refl _⟩ h
set_option maxRecDepth 100000 in
theorem bX9_follows_0 {G : GG} {d : Nat} {M : MM} {Q : Option AV → MM → Prop} (a1 : Int) (hS : ShM M) (h :
Ok G mX9_isSet d 0 0 [vR 96, vI a1] M (fun v M1 => ∃ r2 : Int, v = some (vI r2) ∧ ShM M1 ∧ 
((r2 = 0 →
(Q (some (vI (-1))) M1)) ∧
(¬ (r2 = 0) →
(Ok G mX9_followsOf d 0 0 [vR 96, vI a1] M1 (fun v M4 => ∃ r5 : Int, v = some (vI r5) ∧ ShM M4 ∧ 
(Q (some (vI r5)) M4))))))) :
  Wp G mX9_follows (d + 1) 0 0 0 [some (vR 96), some (vI a1)] [] M 0 0 Q := by
  refine wg_aload_n dX9_follows_0 rfl (Nat.succ_ne_zero _) ?_
  refine wg_iload_n dX9_follows_1 rfl ?_
  refine wg_callV (I' := mX9_isSet) (ci := 9) (np := 1) (d' := d) (q := 96) (as := [vI a1]) (st := []) dX9_follows_2 lk_X9_195 ci_X9_isSet rfl (Nat.le_of_ble_eq_true rfl) rfl rfl (Nat.le_of_ble_eq_true rfl) rfl (Nat.le_refl _) ⟨Nat.le_refl _, Nat.le_refl _⟩ h (fun v M1 h => ?_)
  obtain ⟨r2, rfl, hS, h⟩ := h
  refine wg_if_eq dX9_follows_5 rfl (fun c3 => ?_) (fun c3 => ?_)
  · replace h := h.1 c3
    refine wg_iconst dX9_follows_16 qiconst_m1 ?_
    exact wp_iret rfl dX9_follows_17 ⟨Nat.le_refl _, Nat.le_refl _⟩ h
  · replace h := h.2 c3
    refine wg_aload_n dX9_follows_8 rfl (Nat.succ_ne_zero _) ?_
    refine wg_iload_n dX9_follows_9 rfl ?_
    refine wg_callV (I' := mX9_followsOf) (ci := 9) (np := 1) (d' := d) (q := 96) (as := [vI a1]) (st := []) dX9_follows_10 lk_X9_174 ci_X9_followsOf rfl (Nat.le_of_ble_eq_true rfl) rfl rfl (Nat.le_of_ble_eq_true rfl) rfl (Nat.le_refl _) ⟨Nat.le_refl _, Nat.le_refl _⟩ h (fun v M4 h => ?_)
    obtain ⟨r5, rfl, hS, h⟩ := h
    refine wg_goto dX9_follows_13 rfl ?_
    exact wp_iret rfl dX9_follows_17 ⟨Nat.le_refl _, Nat.le_refl _⟩ h
set_option maxRecDepth 100000 in
theorem bX9_missed_0 {G : GG} {d : Nat} {M : MM} {Q : Option AV → MM → Prop} (hS : ShM M) (h :
Ok G mX9_missedIn d 0 0 [vR 96, vI 0] M (fun v M1 => ∃ r2 : Int, v = some (vI r2) ∧ ShM M1 ∧ 
(Q (some (vI r2)) M1))) :
  Wp G mX9_missed (d + 1) 0 0 0 [some (vR 96)] [] M 0 0 Q := by
  refine wg_aload_n dX9_missed_0 rfl (Nat.succ_ne_zero _) ?_
  refine wg_iconst dX9_missed_1 qiconst_0 ?_
  refine wg_callV (I' := mX9_missedIn) (ci := 9) (np := 1) (d' := d) (q := 96) (as := [vI 0]) (st := []) dX9_missed_2 lk_X9_201 ci_X9_missedIn rfl (Nat.le_of_ble_eq_true rfl) rfl rfl (Nat.le_of_ble_eq_true rfl) rfl (Nat.le_refl _) ⟨Nat.le_refl _, Nat.le_refl _⟩ h (fun v M1 h => ?_)
  obtain ⟨r2, rfl, hS, h⟩ := h
  exact wp_iret rfl dX9_missed_5 ⟨Nat.le_refl _, Nat.le_refl _⟩ h
set_option maxRecDepth 100000 in
theorem bX9_copy_0 {G : GG} {d : Nat} {M : MM} {Q : Option AV → MM → Prop} (a1 : Int) (a2 : Int) (hS : ShM M) (h :
Wp G mX9_copy d 0 0 2 [some (vR 96), some (vI a1), some (vI a2), some (vI 0)] [] M 0 0 Q) :
  Wp G mX9_copy d 0 0 0 [some (vR 96), some (vI a1), some (vI a2), none] [] M 0 0 Q := by
  refine wg_iconst dX9_copy_0 qiconst_0 ?_
  refine wg_istore_n (L' := [some (vR 96), some (vI a1), some (vI a2), some (vI 0)]) dX9_copy_1 (Nat.le_of_ble_eq_true rfl) rfl ?_
  exact h
set_option maxRecDepth 100000 in
theorem bX9_copy_2 {G : GG} {d : Nat} {M : MM} {Q : Option AV → MM → Prop} (a1 : Int) (a2 : Int) (s3 : Int) (hS : ShM M) (h :
(13 ≤ s3 →
(Q none M)) ∧
(¬ (13 ≤ s3) →
(R32 (a2 + s3) ∧
(R32 (a1 + s3) ∧
(((0 : Int) ≤ a1 + s3 ∧ (a1 + s3 : Int) < 156) ∧
(((0 : Int) ≤ a2 + s3 ∧ (a2 + s3 : Int) < 156) ∧
(∀ M4 : MM, M4 = stI M 97 (a2 + s3).toNat (gI M 97 (a1 + s3).toNat) →
(R32 (s3 + 1) ∧
(Wp G mX9_copy d 0 0 2 [some (vR 96), some (vI a1), some (vI a2), some (vI (s3 + 1))] [] M4 0 0 Q))))))))) :
  Wp G mX9_copy d 0 0 2 [some (vR 96), some (vI a1), some (vI a2), some (vI s3)] [] M 0 0 Q := by
  refine wg_iload_n dX9_copy_2 rfl ?_
  refine wg_bipush dX9_copy_3 qbipush_13 ?_
  refine wg_icmp_ge dX9_copy_5 rfl (fun c1 => ?_) (fun c1 => ?_)
  · replace h := h.1 c1
    exact wp_vret rfl dX9_copy_30 ⟨Nat.le_refl _, Nat.le_refl _⟩ h
  · replace h := h.2 c1
    refine wg_aload_n dX9_copy_8 rfl (Nat.succ_ne_zero _) ?_
    refine wg_getRe dX9_copy_9 (fl_X9_7 rfl) rfl rfl (sm0 hS) ?_
    refine wg_iload_n dX9_copy_12 rfl ?_
    refine wg_iload_n dX9_copy_13 rfl ?_
    obtain ⟨o, h⟩ := h
    refine wg_iadd dX9_copy_14 o ?_
    refine wg_aload_n dX9_copy_15 rfl (Nat.succ_ne_zero _) ?_
    refine wg_getRe dX9_copy_16 (fl_X9_7 rfl) rfl rfl (sm0 hS) ?_
    refine wg_iload_n dX9_copy_19 rfl ?_
    refine wg_iload_n dX9_copy_20 rfl ?_
    obtain ⟨o, h⟩ := h
    refine wg_iadd dX9_copy_21 o ?_
    obtain ⟨o2, h⟩ := h
    refine wg_iald dX9_copy_22 rfl o2.1 o2.2 ?_
    obtain ⟨o3, h⟩ := h
    refine wg_iast dX9_copy_23 rfl o3.1 o3.2 ?_
    generalize hM : stI M 97 (a2 + s3).toNat (gI M 97 (a1 + s3).toNat) = M4
    replace h := h _ hM.symm
    replace hS : ShM M4 := by rw [← hM]; exact hS
    clear hM
    obtain ⟨o, h⟩ := h
    refine wg_iinc (L' := [some (vR 96), some (vI a1), some (vI a2), some (vI (s3 + 1))]) dX9_copy_24 (Nat.le_of_ble_eq_true rfl) rfl rfl o ?_
    refine wg_goto dX9_copy_27 rfl ?_
    exact h
set_option maxRecDepth 100000 in
theorem bX9_keepPast_0 {G : GG} {d : Nat} {M : MM} {Q : Option AV → MM → Prop} (hS : ShM M) (h :
Wp G mX9_keepPast (d + 1) 0 0 2 [some (vR 96), some (vI 0)] [] M 0 0 Q) :
  Wp G mX9_keepPast (d + 1) 0 0 0 [some (vR 96), none] [] M 0 0 Q := by
  refine wg_iconst dX9_keepPast_0 qiconst_0 ?_
  refine wg_istore_n (L' := [some (vR 96), some (vI 0)]) dX9_keepPast_1 (Nat.le_of_ble_eq_true rfl) rfl ?_
  exact h
set_option maxRecDepth 100000 in
theorem bX9_keepPast_2 {G : GG} {d : Nat} {M : MM} {Q : Option AV → MM → Prop} (s1 : Int) (hS : ShM M) (h :
(91 ≤ s1 →
(R32 ((gI M 96 1) - (if (gI M 96 1) = 8 then (1 : Int) else 0)) ∧
(∀ M3 : MM, M3 = stI M 96 1 ((gI M 96 1) - (if (gI M 96 1) = 8 then (1 : Int) else 0)) →
(R32 (13 * (gI M3 96 1)) ∧
(R32 (52 + (13 * (gI M3 96 1))) ∧
(Ok G mX9_copy d 0 0 [vR 96, vI 0, vI (52 + (13 * (gI M3 96 1)))] M3 (fun v M4 => v = none ∧ ShM M4 ∧ 
(R32 ((gI M4 96 1) + 1) ∧
(∀ M5 : MM, M5 = stI M4 96 1 ((gI M4 96 1) + 1) →
(Q none M5)))))))))) ∧
(¬ (91 ≤ s1) →
(((gI M 96 1) ≠ 8 →
(R32 ((gI M 96 1) - 0) ∧
(∀ M8 : MM, M8 = stI M 96 1 ((gI M 96 1) - 0) →
(R32 (13 * (gI M8 96 1)) ∧
(R32 (52 + (13 * (gI M8 96 1))) ∧
(Ok G mX9_copy d 0 0 [vR 96, vI 0, vI (52 + (13 * (gI M8 96 1)))] M8 (fun v M9 => v = none ∧ ShM M9 ∧ 
(R32 ((gI M9 96 1) + 1) ∧
(∀ M10 : MM, M10 = stI M9 96 1 ((gI M9 96 1) + 1) →
(Q none M10)))))))))) ∧
((gI M 96 1) = 8 →
(R32 (52 + s1) ∧
(R32 (52 + s1) ∧
(R32 ((52 + s1) + 13) ∧
(((0 : Int) ≤ (52 + s1) + 13 ∧ ((52 + s1) + 13 : Int) < 156) ∧
(((0 : Int) ≤ 52 + s1 ∧ (52 + s1 : Int) < 156) ∧
(∀ M13 : MM, M13 = stI M 97 (52 + s1).toNat (gI M 97 ((52 + s1) + 13).toNat) →
(R32 (s1 + 1) ∧
(Wp G mX9_keepPast (d + 1) 0 0 2 [some (vR 96), some (vI (s1 + 1))] [] M13 0 0 Q)))))))))))) :
  Wp G mX9_keepPast (d + 1) 0 0 2 [some (vR 96), some (vI s1)] [] M 0 0 Q := by
  refine wg_iload_n dX9_keepPast_2 rfl ?_
  refine wg_bipush dX9_keepPast_3 qbipush_91 ?_
  refine wg_icmp_ge dX9_keepPast_5 rfl (fun c1 => ?_) (fun c1 => ?_)
  · replace h := h.1 c1
    refine wg_aload_n dX9_keepPast_44 rfl (Nat.succ_ne_zero _) ?_
    refine wg_dup dX9_keepPast_45 rfl ?_
    refine wg_getI dX9_keepPast_46 (fl_X9_90 rfl) rfl rfl ?_
    refine wg_aload_n dX9_keepPast_49 rfl (Nat.succ_ne_zero _) ?_
    refine wg_getI dX9_keepPast_50 (fl_X9_90 rfl) rfl rfl ?_
    refine wg_bipush dX9_keepPast_53 qbipush_8 ?_
    have hJ6 : Wp G mX9_keepPast (d + 1) 0 0 63 [some (vR 96), some (vI s1)] [vI (if (gI M 96 1) = 8 then (1 : Int) else 0), vI (gI M 96 1), vR 96] M 0 0 Q := by
      obtain ⟨o, h⟩ := h
      refine wg_isub dX9_keepPast_63 o ?_
      refine wg_putI dX9_keepPast_64 (fl_X9_90 rfl) rfl rfl rfl ?_
      generalize hM : stI M 96 1 ((gI M 96 1) - (if (gI M 96 1) = 8 then (1 : Int) else 0)) = M3
      replace h := h _ hM.symm
      replace hS : ShM M3 := by rw [← hM]; exact hS
      clear hM
      refine wg_aload_n dX9_keepPast_67 rfl (Nat.succ_ne_zero _) ?_
      refine wg_iconst dX9_keepPast_68 qiconst_0 ?_
      refine wg_bipush dX9_keepPast_69 qbipush_52 ?_
      refine wg_bipush dX9_keepPast_71 qbipush_13 ?_
      refine wg_aload_n dX9_keepPast_73 rfl (Nat.succ_ne_zero _) ?_
      refine wg_getI dX9_keepPast_74 (fl_X9_90 rfl) rfl rfl ?_
      obtain ⟨o, h⟩ := h
      refine wg_imul dX9_keepPast_77 o ?_
      obtain ⟨o, h⟩ := h
      refine wg_iadd dX9_keepPast_78 o ?_
      refine wg_callV (I' := mX9_copy) (ci := 9) (np := 2) (d' := d) (q := 96) (as := [vI 0, vI (52 + (13 * (gI M3 96 1)))]) (st := []) dX9_keepPast_79 lk_X9_204 ci_X9_copy rfl (Nat.le_of_ble_eq_true rfl) rfl rfl (Nat.le_of_ble_eq_true rfl) rfl (Nat.le_refl _) ⟨Nat.le_refl _, Nat.le_refl _⟩ h (fun v M4 h => ?_)
      obtain ⟨rfl, hS, h⟩ := h
      refine wg_aload_n dX9_keepPast_82 rfl (Nat.succ_ne_zero _) ?_
      refine wg_dup dX9_keepPast_83 rfl ?_
      refine wg_getI dX9_keepPast_84 (fl_X9_90 rfl) rfl rfl ?_
      refine wg_iconst dX9_keepPast_87 qiconst_1 ?_
      obtain ⟨o, h⟩ := h
      refine wg_iadd dX9_keepPast_88 o ?_
      refine wg_putI dX9_keepPast_89 (fl_X9_90 rfl) rfl rfl rfl ?_
      generalize hM : stI M4 96 1 ((gI M4 96 1) + 1) = M5
      replace h := h _ hM.symm
      replace hS : ShM M5 := by rw [← hM]; exact hS
      clear hM
      exact wp_vret rfl dX9_keepPast_92 ⟨Nat.le_refl _, Nat.le_refl _⟩ h
    refine wg_icmp_ne dX9_keepPast_55 rfl (fun c2 => ?_) (fun c2 => ?_)
    · rw [show (if (gI M 96 1) = 8 then (1 : Int) else 0) = 0 from if_neg c2] at hJ6
      refine wg_iconst dX9_keepPast_62 qiconst_0 ?_
      exact hJ6
    · rw [show (if (gI M 96 1) = 8 then (1 : Int) else 0) = 1 from if_pos c2] at hJ6
      refine wg_iconst dX9_keepPast_58 qiconst_1 ?_
      refine wg_goto dX9_keepPast_59 rfl ?_
      exact hJ6
  · replace h := h.2 c1
    refine wg_aload_n dX9_keepPast_8 rfl (Nat.succ_ne_zero _) ?_
    refine wg_getI dX9_keepPast_9 (fl_X9_90 rfl) rfl rfl ?_
    refine wg_bipush dX9_keepPast_12 qbipush_8 ?_
    refine wg_icmp_ne dX9_keepPast_14 rfl (fun c7 => ?_) (fun c7 => ?_)
    · replace h := h.1 c7
      refine wg_aload_n dX9_keepPast_44 rfl (Nat.succ_ne_zero _) ?_
      refine wg_dup dX9_keepPast_45 rfl ?_
      refine wg_getI dX9_keepPast_46 (fl_X9_90 rfl) rfl rfl ?_
      refine wg_aload_n dX9_keepPast_49 rfl (Nat.succ_ne_zero _) ?_
      refine wg_getI dX9_keepPast_50 (fl_X9_90 rfl) rfl rfl ?_
      refine wg_bipush dX9_keepPast_53 qbipush_8 ?_
      refine wg_icmp_ne dX9_keepPast_55 rfl (fun _ => ?_) (fun c => absurd c c7)
      refine wg_iconst dX9_keepPast_62 qiconst_0 ?_
      obtain ⟨o, h⟩ := h
      refine wg_isub dX9_keepPast_63 o ?_
      refine wg_putI dX9_keepPast_64 (fl_X9_90 rfl) rfl rfl rfl ?_
      generalize hM : stI M 96 1 ((gI M 96 1) - 0) = M8
      replace h := h _ hM.symm
      replace hS : ShM M8 := by rw [← hM]; exact hS
      clear hM
      refine wg_aload_n dX9_keepPast_67 rfl (Nat.succ_ne_zero _) ?_
      refine wg_iconst dX9_keepPast_68 qiconst_0 ?_
      refine wg_bipush dX9_keepPast_69 qbipush_52 ?_
      refine wg_bipush dX9_keepPast_71 qbipush_13 ?_
      refine wg_aload_n dX9_keepPast_73 rfl (Nat.succ_ne_zero _) ?_
      refine wg_getI dX9_keepPast_74 (fl_X9_90 rfl) rfl rfl ?_
      obtain ⟨o, h⟩ := h
      refine wg_imul dX9_keepPast_77 o ?_
      obtain ⟨o, h⟩ := h
      refine wg_iadd dX9_keepPast_78 o ?_
      refine wg_callV (I' := mX9_copy) (ci := 9) (np := 2) (d' := d) (q := 96) (as := [vI 0, vI (52 + (13 * (gI M8 96 1)))]) (st := []) dX9_keepPast_79 lk_X9_204 ci_X9_copy rfl (Nat.le_of_ble_eq_true rfl) rfl rfl (Nat.le_of_ble_eq_true rfl) rfl (Nat.le_refl _) ⟨Nat.le_refl _, Nat.le_refl _⟩ h (fun v M9 h => ?_)
      obtain ⟨rfl, hS, h⟩ := h
      refine wg_aload_n dX9_keepPast_82 rfl (Nat.succ_ne_zero _) ?_
      refine wg_dup dX9_keepPast_83 rfl ?_
      refine wg_getI dX9_keepPast_84 (fl_X9_90 rfl) rfl rfl ?_
      refine wg_iconst dX9_keepPast_87 qiconst_1 ?_
      obtain ⟨o, h⟩ := h
      refine wg_iadd dX9_keepPast_88 o ?_
      refine wg_putI dX9_keepPast_89 (fl_X9_90 rfl) rfl rfl rfl ?_
      generalize hM : stI M9 96 1 ((gI M9 96 1) + 1) = M10
      replace h := h _ hM.symm
      replace hS : ShM M10 := by rw [← hM]; exact hS
      clear hM
      exact wp_vret rfl dX9_keepPast_92 ⟨Nat.le_refl _, Nat.le_refl _⟩ h
    · replace h := h.2 c7
      refine wg_aload_n dX9_keepPast_17 rfl (Nat.succ_ne_zero _) ?_
      refine wg_getRe dX9_keepPast_18 (fl_X9_7 rfl) rfl rfl (sm0 hS) ?_
      refine wg_bipush dX9_keepPast_21 qbipush_52 ?_
      refine wg_iload_n dX9_keepPast_23 rfl ?_
      obtain ⟨o, h⟩ := h
      refine wg_iadd dX9_keepPast_24 o ?_
      refine wg_aload_n dX9_keepPast_25 rfl (Nat.succ_ne_zero _) ?_
      refine wg_getRe dX9_keepPast_26 (fl_X9_7 rfl) rfl rfl (sm0 hS) ?_
      refine wg_bipush dX9_keepPast_29 qbipush_52 ?_
      refine wg_iload_n dX9_keepPast_31 rfl ?_
      obtain ⟨o, h⟩ := h
      refine wg_iadd dX9_keepPast_32 o ?_
      refine wg_bipush dX9_keepPast_33 qbipush_13 ?_
      obtain ⟨o, h⟩ := h
      refine wg_iadd dX9_keepPast_35 o ?_
      obtain ⟨o11, h⟩ := h
      refine wg_iald dX9_keepPast_36 rfl o11.1 o11.2 ?_
      obtain ⟨o12, h⟩ := h
      refine wg_iast dX9_keepPast_37 rfl o12.1 o12.2 ?_
      generalize hM : stI M 97 (52 + s1).toNat (gI M 97 ((52 + s1) + 13).toNat) = M13
      replace h := h _ hM.symm
      replace hS : ShM M13 := by rw [← hM]; exact hS
      clear hM
      obtain ⟨o, h⟩ := h
      refine wg_iinc (L' := [some (vR 96), some (vI (s1 + 1))]) dX9_keepPast_38 (Nat.le_of_ble_eq_true rfl) rfl rfl o ?_
      refine wg_goto dX9_keepPast_41 rfl ?_
      exact h
set_option maxRecDepth 100000 in
theorem bX9_bindIn_0 {G : GG} {d : Nat} {M : MM} {Q : Option AV → MM → Prop} (a1 : Int) (a2 : Int) (a3 : Int) (hS : ShM M) (h :
R32 (a1 + 0) ∧
(R32 ((a1 + 0) + a2) ∧
(((0 : Int) ≤ (a1 + 0) + a2 ∧ ((a1 + 0) + a2 : Int) < 156) ∧
(∀ M2 : MM, M2 = stI M 97 ((a1 + 0) + a2).toNat a3 →
(R32 (a1 + 4) ∧
(R32 ((a1 + 4) + a2) ∧
(((0 : Int) ≤ (a1 + 4) + a2 ∧ ((a1 + 4) + a2 : Int) < 156) ∧
(∀ M4 : MM, M4 = stI M2 97 ((a1 + 4) + a2).toNat 0 →
(Q none M4))))))))) :
  Wp G mX9_bindIn d 0 0 0 [some (vR 96), some (vI a1), some (vI a2), some (vI a3)] [] M 0 0 Q := by
  refine wg_aload_n dX9_bindIn_0 rfl (Nat.succ_ne_zero _) ?_
  refine wg_getRe dX9_bindIn_1 (fl_X9_7 rfl) rfl rfl (sm0 hS) ?_
  refine wg_iload_n dX9_bindIn_4 rfl ?_
  refine wg_iconst dX9_bindIn_5 qiconst_0 ?_
  obtain ⟨o, h⟩ := h
  refine wg_iadd dX9_bindIn_6 o ?_
  refine wg_iload_n dX9_bindIn_7 rfl ?_
  obtain ⟨o, h⟩ := h
  refine wg_iadd dX9_bindIn_8 o ?_
  refine wg_iload_n dX9_bindIn_9 rfl ?_
  obtain ⟨o1, h⟩ := h
  refine wg_iast dX9_bindIn_10 rfl o1.1 o1.2 ?_
  generalize hM : stI M 97 ((a1 + 0) + a2).toNat a3 = M2
  replace h := h _ hM.symm
  replace hS : ShM M2 := by rw [← hM]; exact hS
  clear hM
  refine wg_aload_n dX9_bindIn_11 rfl (Nat.succ_ne_zero _) ?_
  refine wg_getRe dX9_bindIn_12 (fl_X9_7 rfl) rfl rfl (sm0 hS) ?_
  refine wg_iload_n dX9_bindIn_15 rfl ?_
  refine wg_iconst dX9_bindIn_16 qiconst_4 ?_
  obtain ⟨o, h⟩ := h
  refine wg_iadd dX9_bindIn_17 o ?_
  refine wg_iload_n dX9_bindIn_18 rfl ?_
  obtain ⟨o, h⟩ := h
  refine wg_iadd dX9_bindIn_19 o ?_
  refine wg_iconst dX9_bindIn_20 qiconst_0 ?_
  obtain ⟨o3, h⟩ := h
  refine wg_iast dX9_bindIn_21 rfl o3.1 o3.2 ?_
  generalize hM : stI M2 97 ((a1 + 4) + a2).toNat 0 = M4
  replace h := h _ hM.symm
  replace hS : ShM M4 := by rw [← hM]; exact hS
  clear hM
  exact wp_vret rfl dX9_bindIn_22 ⟨Nat.le_refl _, Nat.le_refl _⟩ h
set_option maxRecDepth 100000 in
theorem bX9_bind_0 {G : GG} {d : Nat} {M : MM} {Q : Option AV → MM → Prop} (a1 : Int) (a2 : Int) (hS : ShM M) (h :
Ok G mX9_isBeast d 0 0 [vR 96, vI a1] M (fun v M1 => ∃ r2 : Int, v = some (vI r2) ∧ ShM M1 ∧ 
((r2 = 0 →
(Q (some (vI (-1))) M1)) ∧
(¬ (r2 = 0) →
(Ok G mX9_isSet d 0 0 [vR 96, vI a2] M1 (fun v M4 => ∃ r5 : Int, v = some (vI r5) ∧ ShM M4 ∧ 
((r5 ≠ 0 →
(R32 (0 + a1) ∧
(((0 : Int) ≤ 0 + a1 ∧ (0 + a1 : Int) < 156) ∧
(((gI M4 97 (0 + a1).toNat) ≠ 0 →
(Q (some (vI (-2))) M4)) ∧
((gI M4 97 (0 + a1).toNat) = 0 →
(Ok G mX9_thereIn d 0 0 [vR 96, vI 0] M4 (fun v M9 => ∃ r10 : Int, v = some (vI r10) ∧ ShM M9 ∧ 
(((iandv a2 (ixorv r10 (-1))) ≠ 0 →
(Q (some (vI (-2))) M9)) ∧
((iandv a2 (ixorv r10 (-1))) = 0 →
(Ok G mX9_strengthOf d 0 0 [vR 96, vI a2] M9 (fun v M12 => ∃ r13 : Int, v = some (vI r13) ∧ ShM M12 ∧ 
(((0 : Int) ≤ a1 ∧ (a1 : Int) < 4) ∧
(((gI M12 104 a1.toNat) ≤ r13 →
(Ok G mX9_keepPast d 0 0 [vR 96] M12 (fun v M16 => v = none ∧ ShM M16 ∧ 
(Ok G mX9_bindIn d 0 0 [vR 96, vI 0, vI a1, vI a2] M16 (fun v M17 => v = none ∧ ShM M17 ∧ 
(Ok G mX9_strengthOf d 0 0 [vR 96, vI a2] M17 (fun v M18 => ∃ r19 : Int, v = some (vI r19) ∧ ShM M18 ∧ 
(Q (some (vI r19)) M18)))))))) ∧
(¬ ((gI M12 104 a1.toNat) ≤ r13) →
(Q (some (vI (-2))) M12))))))))))))))) ∧
(r5 = 0 →
(Q (some (vI (-1))) M4))))))))) :
  Wp G mX9_bind (d + 1) 0 0 0 [some (vR 96), some (vI a1), some (vI a2)] [] M 0 0 Q := by
  refine wg_aload_n dX9_bind_0 rfl (Nat.succ_ne_zero _) ?_
  refine wg_iload_n dX9_bind_1 rfl ?_
  refine wg_callV (I' := mX9_isBeast) (ci := 9) (np := 1) (d' := d) (q := 96) (as := [vI a1]) (st := []) dX9_bind_2 lk_X9_192 ci_X9_isBeast rfl (Nat.le_of_ble_eq_true rfl) rfl rfl (Nat.le_of_ble_eq_true rfl) rfl (Nat.le_refl _) ⟨Nat.le_refl _, Nat.le_refl _⟩ h (fun v M1 h => ?_)
  obtain ⟨r2, rfl, hS, h⟩ := h
  refine wg_if_eq dX9_bind_5 rfl (fun c3 => ?_) (fun c3 => ?_)
  · replace h := h.1 c3
    refine wg_iconst dX9_bind_16 qiconst_m1 ?_
    exact wp_iret rfl dX9_bind_17 ⟨Nat.le_refl _, Nat.le_refl _⟩ h
  · replace h := h.2 c3
    refine wg_aload_n dX9_bind_8 rfl (Nat.succ_ne_zero _) ?_
    refine wg_iload_n dX9_bind_9 rfl ?_
    refine wg_callV (I' := mX9_isSet) (ci := 9) (np := 1) (d' := d) (q := 96) (as := [vI a2]) (st := []) dX9_bind_10 lk_X9_195 ci_X9_isSet rfl (Nat.le_of_ble_eq_true rfl) rfl rfl (Nat.le_of_ble_eq_true rfl) rfl (Nat.le_refl _) ⟨Nat.le_refl _, Nat.le_refl _⟩ h (fun v M4 h => ?_)
    obtain ⟨r5, rfl, hS, h⟩ := h
    refine wg_if_ne dX9_bind_13 rfl (fun c6 => ?_) (fun c6 => ?_)
    · replace h := h.1 c6
      refine wg_aload_n dX9_bind_18 rfl (Nat.succ_ne_zero _) ?_
      refine wg_getRe dX9_bind_19 (fl_X9_7 rfl) rfl rfl (sm0 hS) ?_
      refine wg_iconst dX9_bind_22 qiconst_0 ?_
      refine wg_iload_n dX9_bind_23 rfl ?_
      obtain ⟨o, h⟩ := h
      refine wg_iadd dX9_bind_24 o ?_
      obtain ⟨o7, h⟩ := h
      refine wg_iald dX9_bind_25 rfl o7.1 o7.2 ?_
      refine wg_if_ne dX9_bind_26 rfl (fun c8 => ?_) (fun c8 => ?_)
      · replace h := h.1 c8
        refine wg_bipush dX9_bind_55 qbipush_m2 ?_
        exact wp_iret rfl dX9_bind_57 ⟨Nat.le_refl _, Nat.le_refl _⟩ h
      · replace h := h.2 c8
        refine wg_iload_n dX9_bind_29 rfl ?_
        refine wg_aload_n dX9_bind_30 rfl (Nat.succ_ne_zero _) ?_
        refine wg_iconst dX9_bind_31 qiconst_0 ?_
        refine wg_callV (I' := mX9_thereIn) (ci := 9) (np := 1) (d' := d) (q := 96) (as := [vI 0]) (st := [vI a2]) dX9_bind_32 lk_X9_189 ci_X9_thereIn rfl (Nat.le_of_ble_eq_true rfl) rfl rfl (Nat.le_of_ble_eq_true rfl) rfl (Nat.le_refl _) ⟨Nat.le_refl _, Nat.le_refl _⟩ h (fun v M9 h => ?_)
        obtain ⟨r10, rfl, hS, h⟩ := h
        refine wg_iconst dX9_bind_35 qiconst_m1 ?_
        refine wg_ixor dX9_bind_36 ?_
        refine wg_iand dX9_bind_37 ?_
        refine wg_if_ne dX9_bind_38 rfl (fun c11 => ?_) (fun c11 => ?_)
        · replace h := h.1 c11
          refine wg_bipush dX9_bind_55 qbipush_m2 ?_
          exact wp_iret rfl dX9_bind_57 ⟨Nat.le_refl _, Nat.le_refl _⟩ h
        · replace h := h.2 c11
          refine wg_aload_n dX9_bind_41 rfl (Nat.succ_ne_zero _) ?_
          refine wg_iload_n dX9_bind_42 rfl ?_
          refine wg_callV (I' := mX9_strengthOf) (ci := 9) (np := 1) (d' := d) (q := 96) (as := [vI a2]) (st := []) dX9_bind_43 lk_X9_198 ci_X9_strengthOf rfl (Nat.le_of_ble_eq_true rfl) rfl rfl (Nat.le_of_ble_eq_true rfl) rfl (Nat.le_refl _) ⟨Nat.le_refl _, Nat.le_refl _⟩ h (fun v M12 h => ?_)
          obtain ⟨r13, rfl, hS, h⟩ := h
          refine wg_aload_n dX9_bind_46 rfl (Nat.succ_ne_zero _) ?_
          refine wg_getRe dX9_bind_47 (fl_X9_31 rfl) rfl rfl (sm14 hS) ?_
          refine wg_iload_n dX9_bind_50 rfl ?_
          obtain ⟨o14, h⟩ := h
          refine wg_iald dX9_bind_51 rfl o14.1 o14.2 ?_
          refine wg_icmp_ge dX9_bind_52 rfl (fun c15 => ?_) (fun c15 => ?_)
          · replace h := h.1 c15
            refine wg_aload_n dX9_bind_58 rfl (Nat.succ_ne_zero _) ?_
            refine wg_callV (I' := mX9_keepPast) (ci := 9) (np := 0) (d' := d) (q := 96) (as := []) (st := []) dX9_bind_59 lk_X9_207 ci_X9_keepPast rfl (Nat.le_of_ble_eq_true rfl) rfl rfl (Nat.le_of_ble_eq_true rfl) rfl (Nat.le_refl _) ⟨Nat.le_refl _, Nat.le_refl _⟩ h (fun v M16 h => ?_)
            obtain ⟨rfl, hS, h⟩ := h
            refine wg_aload_n dX9_bind_62 rfl (Nat.succ_ne_zero _) ?_
            refine wg_iconst dX9_bind_63 qiconst_0 ?_
            refine wg_iload_n dX9_bind_64 rfl ?_
            refine wg_iload_n dX9_bind_65 rfl ?_
            refine wg_callV (I' := mX9_bindIn) (ci := 9) (np := 3) (d' := d) (q := 96) (as := [vI 0, vI a1, vI a2]) (st := []) dX9_bind_66 lk_X9_210 ci_X9_bindIn rfl (Nat.le_of_ble_eq_true rfl) rfl rfl (Nat.le_of_ble_eq_true rfl) rfl (Nat.le_refl _) ⟨Nat.le_refl _, Nat.le_refl _⟩ h (fun v M17 h => ?_)
            obtain ⟨rfl, hS, h⟩ := h
            refine wg_aload_n dX9_bind_69 rfl (Nat.succ_ne_zero _) ?_
            refine wg_iload_n dX9_bind_70 rfl ?_
            refine wg_callV (I' := mX9_strengthOf) (ci := 9) (np := 1) (d' := d) (q := 96) (as := [vI a2]) (st := []) dX9_bind_71 lk_X9_198 ci_X9_strengthOf rfl (Nat.le_of_ble_eq_true rfl) rfl rfl (Nat.le_of_ble_eq_true rfl) rfl (Nat.le_refl _) ⟨Nat.le_refl _, Nat.le_refl _⟩ h (fun v M18 h => ?_)
            obtain ⟨r19, rfl, hS, h⟩ := h
            exact wp_iret rfl dX9_bind_74 ⟨Nat.le_refl _, Nat.le_refl _⟩ h
          · replace h := h.2 c15
            refine wg_bipush dX9_bind_55 qbipush_m2 ?_
            exact wp_iret rfl dX9_bind_57 ⟨Nat.le_refl _, Nat.le_refl _⟩ h
    · replace h := h.2 c6
      refine wg_iconst dX9_bind_16 qiconst_m1 ?_
      exact wp_iret rfl dX9_bind_17 ⟨Nat.le_refl _, Nat.le_refl _⟩ h
set_option maxRecDepth 100000 in
theorem bX9_loosen_0 {G : GG} {d : Nat} {M : MM} {Q : Option AV → MM → Prop} (a1 : Int) (hS : ShM M) (h :
Ok G mX9_isBeast d 0 0 [vR 96, vI a1] M (fun v M1 => ∃ r2 : Int, v = some (vI r2) ∧ ShM M1 ∧ 
((r2 ≠ 0 →
(R32 (0 + a1) ∧
(((0 : Int) ≤ 0 + a1 ∧ (0 + a1 : Int) < 156) ∧
(((gI M1 97 (0 + a1).toNat) ≠ 0 →
(Ok G mX9_keepPast d 0 0 [vR 96] M1 (fun v M6 => v = none ∧ ShM M6 ∧ 
(R32 (0 + a1) ∧
((Ok G mX9_bits d 0 0 [vI (gI M6 97 (0 + a1).toNat)] M6 (fun v M7 => ∃ r8 : Int, v = some (vI r8) ∧ ShM M7 ∧ 
(Ok G mX9_bindIn d 0 0 [vR 96, vI 0, vI a1, vI 0] M7 (fun v M9 => v = none ∧ ShM M9 ∧ 
(Q (some (vI r8)) M9)))))))))) ∧
((gI M1 97 (0 + a1).toNat) = 0 →
(Q (some (vI (-2))) M1)))))) ∧
(r2 = 0 →
(Q (some (vI (-1))) M1))))) :
  Wp G mX9_loosen (d + 1) 0 0 0 [some (vR 96), some (vI a1), none] [] M 0 0 Q := by
  refine wg_aload_n dX9_loosen_0 rfl (Nat.succ_ne_zero _) ?_
  refine wg_iload_n dX9_loosen_1 rfl ?_
  refine wg_callV (I' := mX9_isBeast) (ci := 9) (np := 1) (d' := d) (q := 96) (as := [vI a1]) (st := []) dX9_loosen_2 lk_X9_192 ci_X9_isBeast rfl (Nat.le_of_ble_eq_true rfl) rfl rfl (Nat.le_of_ble_eq_true rfl) rfl (Nat.le_refl _) ⟨Nat.le_refl _, Nat.le_refl _⟩ h (fun v M1 h => ?_)
  obtain ⟨r2, rfl, hS, h⟩ := h
  refine wg_if_ne dX9_loosen_5 rfl (fun c3 => ?_) (fun c3 => ?_)
  · replace h := h.1 c3
    refine wg_aload_n dX9_loosen_10 rfl (Nat.succ_ne_zero _) ?_
    refine wg_getRe dX9_loosen_11 (fl_X9_7 rfl) rfl rfl (sm0 hS) ?_
    refine wg_iconst dX9_loosen_14 qiconst_0 ?_
    refine wg_iload_n dX9_loosen_15 rfl ?_
    obtain ⟨o, h⟩ := h
    refine wg_iadd dX9_loosen_16 o ?_
    obtain ⟨o4, h⟩ := h
    refine wg_iald dX9_loosen_17 rfl o4.1 o4.2 ?_
    refine wg_if_ne dX9_loosen_18 rfl (fun c5 => ?_) (fun c5 => ?_)
    · replace h := h.1 c5
      refine wg_aload_n dX9_loosen_24 rfl (Nat.succ_ne_zero _) ?_
      refine wg_callV (I' := mX9_keepPast) (ci := 9) (np := 0) (d' := d) (q := 96) (as := []) (st := []) dX9_loosen_25 lk_X9_207 ci_X9_keepPast rfl (Nat.le_of_ble_eq_true rfl) rfl rfl (Nat.le_of_ble_eq_true rfl) rfl (Nat.le_refl _) ⟨Nat.le_refl _, Nat.le_refl _⟩ h (fun v M6 h => ?_)
      obtain ⟨rfl, hS, h⟩ := h
      refine wg_aload_n dX9_loosen_28 rfl (Nat.succ_ne_zero _) ?_
      refine wg_getRe dX9_loosen_29 (fl_X9_7 rfl) rfl rfl (sm0 hS) ?_
      refine wg_iconst dX9_loosen_32 qiconst_0 ?_
      refine wg_iload_n dX9_loosen_33 rfl ?_
      obtain ⟨o, h⟩ := h
      refine wg_iadd dX9_loosen_34 o ?_
      refine wg_iald dX9_loosen_35 rfl o4.1 o4.2 ?_
      refine wg_callS (I' := mX9_bits) (np := 1) (d' := d) (as := [vI (gI M6 97 (0 + a1).toNat)]) (st := []) dX9_loosen_36 lk_X9_214 ci_X9_bits rfl rfl (Nat.le_of_ble_eq_true rfl) (Nat.le_refl _) ⟨Nat.le_refl _, Nat.le_refl _⟩ h (fun v M7 h => ?_)
      obtain ⟨r8, rfl, hS, h⟩ := h
      refine wg_istore_n (L' := [some (vR 96), some (vI a1), some (vI r8)]) dX9_loosen_39 (Nat.le_of_ble_eq_true rfl) rfl ?_
      refine wg_aload_n dX9_loosen_40 rfl (Nat.succ_ne_zero _) ?_
      refine wg_iconst dX9_loosen_41 qiconst_0 ?_
      refine wg_iload_n dX9_loosen_42 rfl ?_
      refine wg_iconst dX9_loosen_43 qiconst_0 ?_
      refine wg_callV (I' := mX9_bindIn) (ci := 9) (np := 3) (d' := d) (q := 96) (as := [vI 0, vI a1, vI 0]) (st := []) dX9_loosen_44 lk_X9_210 ci_X9_bindIn rfl (Nat.le_of_ble_eq_true rfl) rfl rfl (Nat.le_of_ble_eq_true rfl) rfl (Nat.le_refl _) ⟨Nat.le_refl _, Nat.le_refl _⟩ h (fun v M9 h => ?_)
      obtain ⟨rfl, hS, h⟩ := h
      refine wg_iload_n dX9_loosen_47 rfl ?_
      exact wp_iret rfl dX9_loosen_48 ⟨Nat.le_refl _, Nat.le_refl _⟩ h
    · replace h := h.2 c5
      refine wg_bipush dX9_loosen_21 qbipush_m2 ?_
      exact wp_iret rfl dX9_loosen_23 ⟨Nat.le_refl _, Nat.le_refl _⟩ h
  · replace h := h.2 c3
    refine wg_iconst dX9_loosen_8 qiconst_m1 ?_
    exact wp_iret rfl dX9_loosen_9 ⟨Nat.le_refl _, Nat.le_refl _⟩ h
set_option maxRecDepth 100000 in
theorem bX9_lentIn_0 {G : GG} {d : Nat} {M : MM} {Q : Option AV → MM → Prop} (a1 : Int) (hS : ShM M) (h :
Wp G mX9_lentIn (d + 1) 0 0 4 [some (vR 96), some (vI a1), some (vI 0), some (vI 0)] [] M 0 0 Q) :
  Wp G mX9_lentIn (d + 1) 0 0 0 [some (vR 96), some (vI a1), none, none] [] M 0 0 Q := by
  refine wg_iconst dX9_lentIn_0 qiconst_0 ?_
  refine wg_istore_n (L' := [some (vR 96), some (vI a1), some (vI 0), none]) dX9_lentIn_1 (Nat.le_of_ble_eq_true rfl) rfl ?_
  refine wg_iconst dX9_lentIn_2 qiconst_0 ?_
  refine wg_istore_n (L' := [some (vR 96), some (vI a1), some (vI 0), some (vI 0)]) dX9_lentIn_3 (Nat.le_of_ble_eq_true rfl) rfl ?_
  exact h
set_option maxRecDepth 100000 in
theorem bX9_lentIn_4 {G : GG} {d : Nat} {M : MM} {Q : Option AV → MM → Prop} (a1 : Int) (s2 : Int) (s3 : Int) (hS : ShM M) (h :
((gI M 96 5) ≤ s3 →
(Q (some (vI s2)) M)) ∧
(¬ ((gI M 96 5) ≤ s3) →
(Ok G mX9_has d 0 0 [vI a1, vI s3] M (fun v M2 => ∃ r3 : Int, v = some (vI r3) ∧ ShM M2 ∧ 
((r3 = 0 →
(R32 (s3 + 1) ∧
(Wp G mX9_lentIn (d + 1) 0 0 4 [some (vR 96), some (vI a1), some (vI (iorv s2 0)), some (vI (s3 + 1))] [] M2 0 0 Q))) ∧
(¬ (r3 = 0) →
(((0 : Int) ≤ s3 ∧ (s3 : Int) < 10) ∧
(R32 (s3 + 1) ∧
(Wp G mX9_lentIn (d + 1) 0 0 4 [some (vR 96), some (vI a1), some (vI (iorv s2 (if (gI M2 100 s3.toNat) = 2 then (ishlv 1 s3 : Int) else 0))), some (vI (s3 + 1))] [] M2 0 0 Q))))))))) :
  Wp G mX9_lentIn (d + 1) 0 0 4 [some (vR 96), some (vI a1), some (vI s2), some (vI s3)] [] M 0 0 Q := by
  refine wg_iload_n dX9_lentIn_4 rfl ?_
  refine wg_aload_n dX9_lentIn_5 rfl (Nat.succ_ne_zero _) ?_
  refine wg_getI dX9_lentIn_6 (fl_X9_74 rfl) rfl rfl ?_
  refine wg_icmp_ge dX9_lentIn_9 rfl (fun c1 => ?_) (fun c1 => ?_)
  · replace h := h.1 c1
    refine wg_iload_n dX9_lentIn_46 rfl ?_
    exact wp_iret rfl dX9_lentIn_47 ⟨Nat.le_refl _, Nat.le_refl _⟩ h
  · replace h := h.2 c1
    refine wg_iload_n dX9_lentIn_12 rfl ?_
    refine wg_iload_n dX9_lentIn_13 rfl ?_
    refine wg_iload_n dX9_lentIn_14 rfl ?_
    refine wg_callS (I' := mX9_has) (np := 2) (d' := d) (as := [vI a1, vI s3]) (st := [vI s2]) dX9_lentIn_15 lk_X9_166 ci_X9_has rfl rfl (Nat.le_of_ble_eq_true rfl) (Nat.le_refl _) ⟨Nat.le_refl _, Nat.le_refl _⟩ h (fun v M2 h => ?_)
    obtain ⟨r3, rfl, hS, h⟩ := h
    refine wg_if_eq dX9_lentIn_18 rfl (fun c4 => ?_) (fun c4 => ?_)
    · replace h := h.1 c4
      refine wg_iconst dX9_lentIn_37 qiconst_0 ?_
      refine wg_ior dX9_lentIn_38 ?_
      refine wg_istore_n (L' := [some (vR 96), some (vI a1), some (vI (iorv s2 0)), some (vI s3)]) dX9_lentIn_39 (Nat.le_of_ble_eq_true rfl) rfl ?_
      obtain ⟨o, h⟩ := h
      refine wg_iinc (L' := [some (vR 96), some (vI a1), some (vI (iorv s2 0)), some (vI (s3 + 1))]) dX9_lentIn_40 (Nat.le_of_ble_eq_true rfl) rfl rfl o ?_
      refine wg_goto dX9_lentIn_43 rfl ?_
      exact h
    · replace h := h.2 c4
      refine wg_aload_n dX9_lentIn_21 rfl (Nat.succ_ne_zero _) ?_
      refine wg_getRe dX9_lentIn_22 (fl_X9_19 rfl) rfl rfl (sm7 hS) ?_
      refine wg_iload_n dX9_lentIn_25 rfl ?_
      obtain ⟨o5, h⟩ := h
      refine wg_iald dX9_lentIn_26 rfl o5.1 o5.2 ?_
      refine wg_iconst dX9_lentIn_27 qiconst_2 ?_
      have hJ7 : Wp G mX9_lentIn (d + 1) 0 0 38 [some (vR 96), some (vI a1), some (vI s2), some (vI s3)] [vI (if (gI M2 100 s3.toNat) = 2 then (ishlv 1 s3 : Int) else 0), vI s2] M2 0 0 Q := by
        refine wg_ior dX9_lentIn_38 ?_
        refine wg_istore_n (L' := [some (vR 96), some (vI a1), some (vI (iorv s2 (if (gI M2 100 s3.toNat) = 2 then (ishlv 1 s3 : Int) else 0))), some (vI s3)]) dX9_lentIn_39 (Nat.le_of_ble_eq_true rfl) rfl ?_
        obtain ⟨o, h⟩ := h
        refine wg_iinc (L' := [some (vR 96), some (vI a1), some (vI (iorv s2 (if (gI M2 100 s3.toNat) = 2 then (ishlv 1 s3 : Int) else 0))), some (vI (s3 + 1))]) dX9_lentIn_40 (Nat.le_of_ble_eq_true rfl) rfl rfl o ?_
        refine wg_goto dX9_lentIn_43 rfl ?_
        exact h
      refine wg_icmp_ne dX9_lentIn_28 rfl (fun c6 => ?_) (fun c6 => ?_)
      · rw [show (if (gI M2 100 s3.toNat) = 2 then (ishlv 1 s3 : Int) else 0) = 0 from if_neg c6] at hJ7
        refine wg_iconst dX9_lentIn_37 qiconst_0 ?_
        exact hJ7
      · rw [show (if (gI M2 100 s3.toNat) = 2 then (ishlv 1 s3 : Int) else 0) = ishlv 1 s3 from if_pos c6] at hJ7
        refine wg_iconst dX9_lentIn_31 qiconst_1 ?_
        refine wg_iload_n dX9_lentIn_32 rfl ?_
        refine wg_ishl dX9_lentIn_33 ?_
        refine wg_goto dX9_lentIn_34 rfl ?_
        exact hJ7
set_option maxRecDepth 100000 in
theorem bX9_dayIn_0 {G : GG} {d : Nat} {M : MM} {Q : Option AV → MM → Prop} (a1 : Int) (hS : ShM M) (h :
Wp G mX9_dayIn (d + 1) 0 0 4 [some (vR 96), some (vI a1), some (vI 0), some (vI 0)] [] M 0 0 Q) :
  Wp G mX9_dayIn (d + 1) 0 0 0 [some (vR 96), some (vI a1), none, none] [] M 0 0 Q := by
  refine wg_iconst dX9_dayIn_0 qiconst_0 ?_
  refine wg_istore_n (L' := [some (vR 96), some (vI a1), some (vI 0), none]) dX9_dayIn_1 (Nat.le_of_ble_eq_true rfl) rfl ?_
  refine wg_iconst dX9_dayIn_2 qiconst_0 ?_
  refine wg_istore_n (L' := [some (vR 96), some (vI a1), some (vI 0), some (vI 0)]) dX9_dayIn_3 (Nat.le_of_ble_eq_true rfl) rfl ?_
  exact h
set_option maxRecDepth 100000 in
theorem bX9_dayIn_4 {G : GG} {d : Nat} {M : MM} {Q : Option AV → MM → Prop} (a1 : Int) (s2 : Int) (s3 : Int) (hS : ShM M) (h :
((gI M 96 13) ≤ s3 →
(R32 (a1 + 12) ∧
(((0 : Int) ≤ a1 + 12 ∧ (a1 + 12 : Int) < 156) ∧
(R32 ((gI M 97 (a1 + 12).toNat) + 1) ∧
((∀ M3 : MM, M3 = stI M 97 (a1 + 12).toNat ((gI M 97 (a1 + 12).toNat) + 1) →
(Q (some (vI s2)) M3))))))) ∧
(¬ ((gI M 96 13) ≤ s3) →
(R32 (a1 + 0) ∧
(R32 ((a1 + 0) + s3) ∧
(((0 : Int) ≤ (a1 + 0) + s3 ∧ ((a1 + 0) + s3 : Int) < 156) ∧
(((gI M 97 ((a1 + 0) + s3).toNat) = 0 →
(R32 (s3 + 1) ∧
(Wp G mX9_dayIn (d + 1) 0 0 4 [some (vR 96), some (vI a1), some (vI s2), some (vI (s3 + 1))] [] M 0 0 Q))) ∧
(¬ ((gI M 97 ((a1 + 0) + s3).toNat) = 0) →
(R32 (a1 + 4) ∧
(R32 ((a1 + 4) + s3) ∧
(((0 : Int) ≤ (a1 + 4) + s3 ∧ ((a1 + 4) + s3 : Int) < 156) ∧
(R32 ((gI M 97 ((a1 + 4) + s3).toNat) + 1) ∧
((∀ M7 : MM, M7 = stI M 97 ((a1 + 4) + s3).toNat ((gI M 97 ((a1 + 4) + s3).toNat) + 1) →
(R32 (a1 + 4) ∧
(R32 ((a1 + 4) + s3) ∧
((((gI M7 97 ((a1 + 4) + s3).toNat) ≠ 3 →
(R32 (a1 + 0) ∧
(R32 ((a1 + 0) + s3) ∧
((Ok G mX9_strengthOf d 0 0 [vR 96, vI (gI M7 97 ((a1 + 0) + s3).toNat)] M7 (fun v M9 => ∃ r10 : Int, v = some (vI r10) ∧ ShM M9 ∧ 
(((0 : Int) ≤ s3 ∧ (s3 : Int) < 4) ∧
(((gI M9 104 s3.toNat) ≤ r10 →
(R32 (s3 + 1) ∧
(Wp G mX9_dayIn (d + 1) 0 0 4 [some (vR 96), some (vI a1), some (vI s2), some (vI (s3 + 1))] [] M9 0 0 Q))) ∧
(¬ ((gI M9 104 s3.toNat) ≤ r10) →
(Ok G mX9_bindIn d 0 0 [vR 96, vI a1, vI s3, vI 0] M9 (fun v M13 => v = none ∧ ShM M13 ∧ 
(R32 (a1 + 8) ∧
(R32 ((a1 + 8) + s3) ∧
(((0 : Int) ≤ (a1 + 8) + s3 ∧ ((a1 + 8) + s3 : Int) < 156) ∧
(R32 ((gI M13 97 ((a1 + 8) + s3).toNat) + 1) ∧
((∀ M15 : MM, M15 = stI M13 97 ((a1 + 8) + s3).toNat ((gI M13 97 ((a1 + 8) + s3).toNat) + 1) →
(R32 (s2 + 1) ∧
(R32 (s3 + 1) ∧
(Wp G mX9_dayIn (d + 1) 0 0 4 [some (vR 96), some (vI a1), some (vI (s2 + 1)), some (vI (s3 + 1))] [] M15 0 0 Q)))))))))))))))))))) ∧
((gI M7 97 ((a1 + 4) + s3).toNat) = 3 →
(R32 (a1 + 0) ∧
(R32 ((a1 + 0) + s3) ∧
((R32 (a1 + 0) ∧
(R32 ((a1 + 0) + s3) ∧
((Ok G mX9_lentIn d 0 0 [vR 96, vI (gI M7 97 ((a1 + 0) + s3).toNat)] M7 (fun v M16 => ∃ r17 : Int, v = some (vI r17) ∧ ShM M16 ∧ 
((∀ M18 : MM, M18 = stI M16 97 ((a1 + 0) + s3).toNat (iandv (gI M7 97 ((a1 + 0) + s3).toNat) (ixorv r17 (-1))) →
(R32 (a1 + 0) ∧
(R32 ((a1 + 0) + s3) ∧
((Ok G mX9_strengthOf d 0 0 [vR 96, vI (gI M18 97 ((a1 + 0) + s3).toNat)] M18 (fun v M19 => ∃ r20 : Int, v = some (vI r20) ∧ ShM M19 ∧ 
(((0 : Int) ≤ s3 ∧ (s3 : Int) < 4) ∧
(((gI M19 104 s3.toNat) ≤ r20 →
(R32 (s3 + 1) ∧
(Wp G mX9_dayIn (d + 1) 0 0 4 [some (vR 96), some (vI a1), some (vI s2), some (vI (s3 + 1))] [] M19 0 0 Q))) ∧
(¬ ((gI M19 104 s3.toNat) ≤ r20) →
(Ok G mX9_bindIn d 0 0 [vR 96, vI a1, vI s3, vI 0] M19 (fun v M23 => v = none ∧ ShM M23 ∧ 
(R32 (a1 + 8) ∧
(R32 ((a1 + 8) + s3) ∧
(((0 : Int) ≤ (a1 + 8) + s3 ∧ ((a1 + 8) + s3 : Int) < 156) ∧
(R32 ((gI M23 97 ((a1 + 8) + s3).toNat) + 1) ∧
((∀ M25 : MM, M25 = stI M23 97 ((a1 + 8) + s3).toNat ((gI M23 97 ((a1 + 8) + s3).toNat) + 1) →
(R32 (s2 + 1) ∧
(R32 (s3 + 1) ∧
(Wp G mX9_dayIn (d + 1) 0 0 4 [some (vR 96), some (vI a1), some (vI (s2 + 1)), some (vI (s3 + 1))] [] M25 0 0 Q))))))))))))))))))))))))))))))))))))))))))))))) :
  Wp G mX9_dayIn (d + 1) 0 0 4 [some (vR 96), some (vI a1), some (vI s2), some (vI s3)] [] M 0 0 Q := by
  refine wg_iload_n dX9_dayIn_4 rfl ?_
  refine wg_aload_n dX9_dayIn_5 rfl (Nat.succ_ne_zero _) ?_
  refine wg_getI dX9_dayIn_6 (fl_X9_84 rfl) rfl rfl ?_
  refine wg_icmp_ge dX9_dayIn_9 rfl (fun c1 => ?_) (fun c1 => ?_)
  · replace h := h.1 c1
    refine wg_aload_n dX9_dayIn_136 rfl (Nat.succ_ne_zero _) ?_
    refine wg_getRe dX9_dayIn_137 (fl_X9_7 rfl) rfl rfl (sm0 hS) ?_
    refine wg_iload_n dX9_dayIn_140 rfl ?_
    refine wg_bipush dX9_dayIn_141 qbipush_12 ?_
    obtain ⟨o, h⟩ := h
    refine wg_iadd dX9_dayIn_143 o ?_
    refine wg_dup2 dX9_dayIn_144 rfl rfl ?_
    obtain ⟨o2, h⟩ := h
    refine wg_iald dX9_dayIn_145 rfl o2.1 o2.2 ?_
    refine wg_iconst dX9_dayIn_146 qiconst_1 ?_
    obtain ⟨o, h⟩ := h
    refine wg_iadd dX9_dayIn_147 o ?_
    refine wg_iast dX9_dayIn_148 rfl o2.1 o2.2 ?_
    generalize hM : stI M 97 (a1 + 12).toNat ((gI M 97 (a1 + 12).toNat) + 1) = M3
    replace h := h _ hM.symm
    replace hS : ShM M3 := by rw [← hM]; exact hS
    clear hM
    refine wg_iload_n dX9_dayIn_149 rfl ?_
    exact wp_iret rfl dX9_dayIn_150 ⟨Nat.le_refl _, Nat.le_refl _⟩ h
  · replace h := h.2 c1
    refine wg_aload_n dX9_dayIn_12 rfl (Nat.succ_ne_zero _) ?_
    refine wg_getRe dX9_dayIn_13 (fl_X9_7 rfl) rfl rfl (sm0 hS) ?_
    refine wg_iload_n dX9_dayIn_16 rfl ?_
    refine wg_iconst dX9_dayIn_17 qiconst_0 ?_
    obtain ⟨o, h⟩ := h
    refine wg_iadd dX9_dayIn_18 o ?_
    refine wg_iload_n dX9_dayIn_19 rfl ?_
    obtain ⟨o, h⟩ := h
    refine wg_iadd dX9_dayIn_20 o ?_
    obtain ⟨o4, h⟩ := h
    refine wg_iald dX9_dayIn_21 rfl o4.1 o4.2 ?_
    refine wg_if_eq dX9_dayIn_22 rfl (fun c5 => ?_) (fun c5 => ?_)
    · replace h := h.1 c5
      obtain ⟨o, h⟩ := h
      refine wg_iinc (L' := [some (vR 96), some (vI a1), some (vI s2), some (vI (s3 + 1))]) dX9_dayIn_130 (Nat.le_of_ble_eq_true rfl) rfl rfl o ?_
      refine wg_goto dX9_dayIn_133 rfl ?_
      exact h
    · replace h := h.2 c5
      refine wg_aload_n dX9_dayIn_25 rfl (Nat.succ_ne_zero _) ?_
      refine wg_getRe dX9_dayIn_26 (fl_X9_7 rfl) rfl rfl (sm0 hS) ?_
      refine wg_iload_n dX9_dayIn_29 rfl ?_
      refine wg_iconst dX9_dayIn_30 qiconst_4 ?_
      obtain ⟨o, h⟩ := h
      refine wg_iadd dX9_dayIn_31 o ?_
      refine wg_iload_n dX9_dayIn_32 rfl ?_
      obtain ⟨o, h⟩ := h
      refine wg_iadd dX9_dayIn_33 o ?_
      refine wg_dup2 dX9_dayIn_34 rfl rfl ?_
      obtain ⟨o6, h⟩ := h
      refine wg_iald dX9_dayIn_35 rfl o6.1 o6.2 ?_
      refine wg_iconst dX9_dayIn_36 qiconst_1 ?_
      obtain ⟨o, h⟩ := h
      refine wg_iadd dX9_dayIn_37 o ?_
      refine wg_iast dX9_dayIn_38 rfl o6.1 o6.2 ?_
      generalize hM : stI M 97 ((a1 + 4) + s3).toNat ((gI M 97 ((a1 + 4) + s3).toNat) + 1) = M7
      replace h := h _ hM.symm
      replace hS : ShM M7 := by rw [← hM]; exact hS
      clear hM
      refine wg_aload_n dX9_dayIn_39 rfl (Nat.succ_ne_zero _) ?_
      refine wg_getRe dX9_dayIn_40 (fl_X9_7 rfl) rfl rfl (sm0 hS) ?_
      refine wg_iload_n dX9_dayIn_43 rfl ?_
      refine wg_iconst dX9_dayIn_44 qiconst_4 ?_
      obtain ⟨o, h⟩ := h
      refine wg_iadd dX9_dayIn_45 o ?_
      refine wg_iload_n dX9_dayIn_46 rfl ?_
      obtain ⟨o, h⟩ := h
      refine wg_iadd dX9_dayIn_47 o ?_
      refine wg_iald dX9_dayIn_48 rfl o6.1 o6.2 ?_
      refine wg_iconst dX9_dayIn_49 qiconst_3 ?_
      refine wg_icmp_ne dX9_dayIn_50 rfl (fun c8 => ?_) (fun c8 => ?_)
      · replace h := h.1 c8
        refine wg_aload_n dX9_dayIn_82 rfl (Nat.succ_ne_zero _) ?_
        refine wg_aload_n dX9_dayIn_83 rfl (Nat.succ_ne_zero _) ?_
        refine wg_getRe dX9_dayIn_84 (fl_X9_7 rfl) rfl rfl (sm0 hS) ?_
        refine wg_iload_n dX9_dayIn_87 rfl ?_
        refine wg_iconst dX9_dayIn_88 qiconst_0 ?_
        obtain ⟨o, h⟩ := h
        refine wg_iadd dX9_dayIn_89 o ?_
        refine wg_iload_n dX9_dayIn_90 rfl ?_
        obtain ⟨o, h⟩ := h
        refine wg_iadd dX9_dayIn_91 o ?_
        refine wg_iald dX9_dayIn_92 rfl o4.1 o4.2 ?_
        refine wg_callV (I' := mX9_strengthOf) (ci := 9) (np := 1) (d' := d) (q := 96) (as := [vI (gI M7 97 ((a1 + 0) + s3).toNat)]) (st := []) dX9_dayIn_93 lk_X9_198 ci_X9_strengthOf rfl (Nat.le_of_ble_eq_true rfl) rfl rfl (Nat.le_of_ble_eq_true rfl) rfl (Nat.le_refl _) ⟨Nat.le_refl _, Nat.le_refl _⟩ h (fun v M9 h => ?_)
        obtain ⟨r10, rfl, hS, h⟩ := h
        refine wg_aload_n dX9_dayIn_96 rfl (Nat.succ_ne_zero _) ?_
        refine wg_getRe dX9_dayIn_97 (fl_X9_31 rfl) rfl rfl (sm14 hS) ?_
        refine wg_iload_n dX9_dayIn_100 rfl ?_
        obtain ⟨o11, h⟩ := h
        refine wg_iald dX9_dayIn_101 rfl o11.1 o11.2 ?_
        refine wg_icmp_ge dX9_dayIn_102 rfl (fun c12 => ?_) (fun c12 => ?_)
        · replace h := h.1 c12
          obtain ⟨o, h⟩ := h
          refine wg_iinc (L' := [some (vR 96), some (vI a1), some (vI s2), some (vI (s3 + 1))]) dX9_dayIn_130 (Nat.le_of_ble_eq_true rfl) rfl rfl o ?_
          refine wg_goto dX9_dayIn_133 rfl ?_
          exact h
        · replace h := h.2 c12
          refine wg_aload_n dX9_dayIn_105 rfl (Nat.succ_ne_zero _) ?_
          refine wg_iload_n dX9_dayIn_106 rfl ?_
          refine wg_iload_n dX9_dayIn_107 rfl ?_
          refine wg_iconst dX9_dayIn_108 qiconst_0 ?_
          refine wg_callV (I' := mX9_bindIn) (ci := 9) (np := 3) (d' := d) (q := 96) (as := [vI a1, vI s3, vI 0]) (st := []) dX9_dayIn_109 lk_X9_210 ci_X9_bindIn rfl (Nat.le_of_ble_eq_true rfl) rfl rfl (Nat.le_of_ble_eq_true rfl) rfl (Nat.le_refl _) ⟨Nat.le_refl _, Nat.le_refl _⟩ h (fun v M13 h => ?_)
          obtain ⟨rfl, hS, h⟩ := h
          refine wg_aload_n dX9_dayIn_112 rfl (Nat.succ_ne_zero _) ?_
          refine wg_getRe dX9_dayIn_113 (fl_X9_7 rfl) rfl rfl (sm0 hS) ?_
          refine wg_iload_n dX9_dayIn_116 rfl ?_
          refine wg_bipush dX9_dayIn_117 qbipush_8 ?_
          obtain ⟨o, h⟩ := h
          refine wg_iadd dX9_dayIn_119 o ?_
          refine wg_iload_n dX9_dayIn_120 rfl ?_
          obtain ⟨o, h⟩ := h
          refine wg_iadd dX9_dayIn_121 o ?_
          refine wg_dup2 dX9_dayIn_122 rfl rfl ?_
          obtain ⟨o14, h⟩ := h
          refine wg_iald dX9_dayIn_123 rfl o14.1 o14.2 ?_
          refine wg_iconst dX9_dayIn_124 qiconst_1 ?_
          obtain ⟨o, h⟩ := h
          refine wg_iadd dX9_dayIn_125 o ?_
          refine wg_iast dX9_dayIn_126 rfl o14.1 o14.2 ?_
          generalize hM : stI M13 97 ((a1 + 8) + s3).toNat ((gI M13 97 ((a1 + 8) + s3).toNat) + 1) = M15
          replace h := h _ hM.symm
          replace hS : ShM M15 := by rw [← hM]; exact hS
          clear hM
          obtain ⟨o, h⟩ := h
          refine wg_iinc (L' := [some (vR 96), some (vI a1), some (vI (s2 + 1)), some (vI s3)]) dX9_dayIn_127 (Nat.le_of_ble_eq_true rfl) rfl rfl o ?_
          obtain ⟨o, h⟩ := h
          refine wg_iinc (L' := [some (vR 96), some (vI a1), some (vI (s2 + 1)), some (vI (s3 + 1))]) dX9_dayIn_130 (Nat.le_of_ble_eq_true rfl) rfl rfl o ?_
          refine wg_goto dX9_dayIn_133 rfl ?_
          exact h
      · replace h := h.2 c8
        refine wg_aload_n dX9_dayIn_53 rfl (Nat.succ_ne_zero _) ?_
        refine wg_getRe dX9_dayIn_54 (fl_X9_7 rfl) rfl rfl (sm0 hS) ?_
        refine wg_iload_n dX9_dayIn_57 rfl ?_
        refine wg_iconst dX9_dayIn_58 qiconst_0 ?_
        obtain ⟨o, h⟩ := h
        refine wg_iadd dX9_dayIn_59 o ?_
        refine wg_iload_n dX9_dayIn_60 rfl ?_
        obtain ⟨o, h⟩ := h
        refine wg_iadd dX9_dayIn_61 o ?_
        refine wg_dup2 dX9_dayIn_62 rfl rfl ?_
        refine wg_iald dX9_dayIn_63 rfl o4.1 o4.2 ?_
        refine wg_aload_n dX9_dayIn_64 rfl (Nat.succ_ne_zero _) ?_
        refine wg_aload_n dX9_dayIn_65 rfl (Nat.succ_ne_zero _) ?_
        refine wg_getRe dX9_dayIn_66 (fl_X9_7 rfl) rfl rfl (sm0 hS) ?_
        refine wg_iload_n dX9_dayIn_69 rfl ?_
        refine wg_iconst dX9_dayIn_70 qiconst_0 ?_
        obtain ⟨o, h⟩ := h
        refine wg_iadd dX9_dayIn_71 o ?_
        refine wg_iload_n dX9_dayIn_72 rfl ?_
        obtain ⟨o, h⟩ := h
        refine wg_iadd dX9_dayIn_73 o ?_
        refine wg_iald dX9_dayIn_74 rfl o4.1 o4.2 ?_
        refine wg_callV (I' := mX9_lentIn) (ci := 9) (np := 1) (d' := d) (q := 96) (as := [vI (gI M7 97 ((a1 + 0) + s3).toNat)]) (st := [vI (gI M7 97 ((a1 + 0) + s3).toNat), vI ((a1 + 0) + s3), vR 97]) dX9_dayIn_75 lk_X9_217 ci_X9_lentIn rfl (Nat.le_of_ble_eq_true rfl) rfl rfl (Nat.le_of_ble_eq_true rfl) rfl (Nat.le_refl _) ⟨Nat.le_refl _, Nat.le_refl _⟩ h (fun v M16 h => ?_)
        obtain ⟨r17, rfl, hS, h⟩ := h
        refine wg_iconst dX9_dayIn_78 qiconst_m1 ?_
        refine wg_ixor dX9_dayIn_79 ?_
        refine wg_iand dX9_dayIn_80 ?_
        refine wg_iast dX9_dayIn_81 rfl o4.1 o4.2 ?_
        generalize hM : stI M16 97 ((a1 + 0) + s3).toNat (iandv (gI M7 97 ((a1 + 0) + s3).toNat) (ixorv r17 (-1))) = M18
        replace h := h _ hM.symm
        replace hS : ShM M18 := by rw [← hM]; exact hS
        clear hM
        refine wg_aload_n dX9_dayIn_82 rfl (Nat.succ_ne_zero _) ?_
        refine wg_aload_n dX9_dayIn_83 rfl (Nat.succ_ne_zero _) ?_
        refine wg_getRe dX9_dayIn_84 (fl_X9_7 rfl) rfl rfl (sm0 hS) ?_
        refine wg_iload_n dX9_dayIn_87 rfl ?_
        refine wg_iconst dX9_dayIn_88 qiconst_0 ?_
        obtain ⟨o, h⟩ := h
        refine wg_iadd dX9_dayIn_89 o ?_
        refine wg_iload_n dX9_dayIn_90 rfl ?_
        obtain ⟨o, h⟩ := h
        refine wg_iadd dX9_dayIn_91 o ?_
        refine wg_iald dX9_dayIn_92 rfl o4.1 o4.2 ?_
        refine wg_callV (I' := mX9_strengthOf) (ci := 9) (np := 1) (d' := d) (q := 96) (as := [vI (gI M18 97 ((a1 + 0) + s3).toNat)]) (st := []) dX9_dayIn_93 lk_X9_198 ci_X9_strengthOf rfl (Nat.le_of_ble_eq_true rfl) rfl rfl (Nat.le_of_ble_eq_true rfl) rfl (Nat.le_refl _) ⟨Nat.le_refl _, Nat.le_refl _⟩ h (fun v M19 h => ?_)
        obtain ⟨r20, rfl, hS, h⟩ := h
        refine wg_aload_n dX9_dayIn_96 rfl (Nat.succ_ne_zero _) ?_
        refine wg_getRe dX9_dayIn_97 (fl_X9_31 rfl) rfl rfl (sm14 hS) ?_
        refine wg_iload_n dX9_dayIn_100 rfl ?_
        obtain ⟨o21, h⟩ := h
        refine wg_iald dX9_dayIn_101 rfl o21.1 o21.2 ?_
        refine wg_icmp_ge dX9_dayIn_102 rfl (fun c22 => ?_) (fun c22 => ?_)
        · replace h := h.1 c22
          obtain ⟨o, h⟩ := h
          refine wg_iinc (L' := [some (vR 96), some (vI a1), some (vI s2), some (vI (s3 + 1))]) dX9_dayIn_130 (Nat.le_of_ble_eq_true rfl) rfl rfl o ?_
          refine wg_goto dX9_dayIn_133 rfl ?_
          exact h
        · replace h := h.2 c22
          refine wg_aload_n dX9_dayIn_105 rfl (Nat.succ_ne_zero _) ?_
          refine wg_iload_n dX9_dayIn_106 rfl ?_
          refine wg_iload_n dX9_dayIn_107 rfl ?_
          refine wg_iconst dX9_dayIn_108 qiconst_0 ?_
          refine wg_callV (I' := mX9_bindIn) (ci := 9) (np := 3) (d' := d) (q := 96) (as := [vI a1, vI s3, vI 0]) (st := []) dX9_dayIn_109 lk_X9_210 ci_X9_bindIn rfl (Nat.le_of_ble_eq_true rfl) rfl rfl (Nat.le_of_ble_eq_true rfl) rfl (Nat.le_refl _) ⟨Nat.le_refl _, Nat.le_refl _⟩ h (fun v M23 h => ?_)
          obtain ⟨rfl, hS, h⟩ := h
          refine wg_aload_n dX9_dayIn_112 rfl (Nat.succ_ne_zero _) ?_
          refine wg_getRe dX9_dayIn_113 (fl_X9_7 rfl) rfl rfl (sm0 hS) ?_
          refine wg_iload_n dX9_dayIn_116 rfl ?_
          refine wg_bipush dX9_dayIn_117 qbipush_8 ?_
          obtain ⟨o, h⟩ := h
          refine wg_iadd dX9_dayIn_119 o ?_
          refine wg_iload_n dX9_dayIn_120 rfl ?_
          obtain ⟨o, h⟩ := h
          refine wg_iadd dX9_dayIn_121 o ?_
          refine wg_dup2 dX9_dayIn_122 rfl rfl ?_
          obtain ⟨o24, h⟩ := h
          refine wg_iald dX9_dayIn_123 rfl o24.1 o24.2 ?_
          refine wg_iconst dX9_dayIn_124 qiconst_1 ?_
          obtain ⟨o, h⟩ := h
          refine wg_iadd dX9_dayIn_125 o ?_
          refine wg_iast dX9_dayIn_126 rfl o24.1 o24.2 ?_
          generalize hM : stI M23 97 ((a1 + 8) + s3).toNat ((gI M23 97 ((a1 + 8) + s3).toNat) + 1) = M25
          replace h := h _ hM.symm
          replace hS : ShM M25 := by rw [← hM]; exact hS
          clear hM
          obtain ⟨o, h⟩ := h
          refine wg_iinc (L' := [some (vR 96), some (vI a1), some (vI (s2 + 1)), some (vI s3)]) dX9_dayIn_127 (Nat.le_of_ble_eq_true rfl) rfl rfl o ?_
          obtain ⟨o, h⟩ := h
          refine wg_iinc (L' := [some (vR 96), some (vI a1), some (vI (s2 + 1)), some (vI (s3 + 1))]) dX9_dayIn_130 (Nat.le_of_ble_eq_true rfl) rfl rfl o ?_
          refine wg_goto dX9_dayIn_133 rfl ?_
          exact h
set_option maxRecDepth 100000 in
theorem bX9_days_0 {G : GG} {d : Nat} {M : MM} {Q : Option AV → MM → Prop} (a1 : Int) (hS : ShM M) (h :
Ok G mX9_in d 0 0 [vL a1, vL 1, vL 40] M (fun v M1 => ∃ r2 : Int, v = some (vI r2) ∧ ShM M1 ∧ 
((r2 ≠ 0 →
((R32 ((gI M1 97 12) + a1) ∧
((((gI M1 97 12) + a1) ≤ 999 →
(Ok G mX9_keepPast d 0 0 [vR 96] M1 (fun v M5 => v = none ∧ ShM M5 ∧ 
(Wp G mX9_days (d + 1) 0 0 40 [some (vR 96), some (vI a1), some (vI 0), some (vI 0)] [] M5 0 0 Q)))) ∧
(¬ (((gI M1 97 12) + a1) ≤ 999) →
(Q (some (vI (-2))) M1)))))) ∧
(r2 = 0 →
(Q (some (vI (-1))) M1))))) :
  Wp G mX9_days (d + 1) 0 0 0 [some (vR 96), some (vI a1), none, none] [] M 0 0 Q := by
  refine wg_iload_n dX9_days_0 rfl ?_
  refine wg_i2l dX9_days_1 ?_
  refine wg_lconst dX9_days_2 rfl ?_
  refine wg_ldc2 dX9_days_3 kc_X9_220 ⟨by decide, by decide⟩ ?_
  refine wg_callS (I' := mX9_in) (np := 3) (d' := d) (as := [vL a1, vL 1, vL 40]) (st := []) dX9_days_6 lk_X9_100 ci_X9_in rfl rfl (Nat.le_of_ble_eq_true rfl) (Nat.le_refl _) ⟨Nat.le_refl _, Nat.le_refl _⟩ h (fun v M1 h => ?_)
  obtain ⟨r2, rfl, hS, h⟩ := h
  refine wg_if_ne dX9_days_9 rfl (fun c3 => ?_) (fun c3 => ?_)
  · replace h := h.1 c3
    refine wg_aload_n dX9_days_14 rfl (Nat.succ_ne_zero _) ?_
    refine wg_getRe dX9_days_15 (fl_X9_7 rfl) rfl rfl (sm0 hS) ?_
    refine wg_bipush dX9_days_18 qbipush_12 ?_
    refine wg_iald dX9_days_20 rfl (by decide) (by decide) ?_
    refine wg_iload_n dX9_days_21 rfl ?_
    obtain ⟨o, h⟩ := h
    refine wg_iadd dX9_days_22 o ?_
    refine wg_sipush dX9_days_23 qsipush_999 ?_
    refine wg_icmp_le dX9_days_26 rfl (fun c4 => ?_) (fun c4 => ?_)
    · replace h := h.1 c4
      refine wg_aload_n dX9_days_32 rfl (Nat.succ_ne_zero _) ?_
      refine wg_callV (I' := mX9_keepPast) (ci := 9) (np := 0) (d' := d) (q := 96) (as := []) (st := []) dX9_days_33 lk_X9_207 ci_X9_keepPast rfl (Nat.le_of_ble_eq_true rfl) rfl rfl (Nat.le_of_ble_eq_true rfl) rfl (Nat.le_refl _) ⟨Nat.le_refl _, Nat.le_refl _⟩ h (fun v M5 h => ?_)
      obtain ⟨rfl, hS, h⟩ := h
      refine wg_iconst dX9_days_36 qiconst_0 ?_
      refine wg_istore_n (L' := [some (vR 96), some (vI a1), some (vI 0), none]) dX9_days_37 (Nat.le_of_ble_eq_true rfl) rfl ?_
      refine wg_iconst dX9_days_38 qiconst_0 ?_
      refine wg_istore_n (L' := [some (vR 96), some (vI a1), some (vI 0), some (vI 0)]) dX9_days_39 (Nat.le_of_ble_eq_true rfl) rfl ?_
      exact h
    · replace h := h.2 c4
      refine wg_bipush dX9_days_29 qbipush_m2 ?_
      exact wp_iret rfl dX9_days_31 ⟨Nat.le_refl _, Nat.le_refl _⟩ h
  · replace h := h.2 c3
    refine wg_iconst dX9_days_12 qiconst_m1 ?_
    exact wp_iret rfl dX9_days_13 ⟨Nat.le_refl _, Nat.le_refl _⟩ h
set_option maxRecDepth 100000 in
theorem bX9_days_40 {G : GG} {d : Nat} {M : MM} {Q : Option AV → MM → Prop} (a1 : Int) (s2 : Int) (s3 : Int) (hS : ShM M) (h :
(a1 ≤ s3 →
(Q (some (vI s2)) M)) ∧
(¬ (a1 ≤ s3) →
(Ok G mX9_dayIn d 0 0 [vR 96, vI 0] M (fun v M2 => ∃ r3 : Int, v = some (vI r3) ∧ ShM M2 ∧ 
(R32 (s2 + r3) ∧
(R32 (s3 + 1) ∧
(Wp G mX9_days (d + 1) 0 0 40 [some (vR 96), some (vI a1), some (vI (s2 + r3)), some (vI (s3 + 1))] [] M2 0 0 Q))))))) :
  Wp G mX9_days (d + 1) 0 0 40 [some (vR 96), some (vI a1), some (vI s2), some (vI s3)] [] M 0 0 Q := by
  refine wg_iload_n dX9_days_40 rfl ?_
  refine wg_iload_n dX9_days_41 rfl ?_
  refine wg_icmp_ge dX9_days_42 rfl (fun c1 => ?_) (fun c1 => ?_)
  · replace h := h.1 c1
    refine wg_iload_n dX9_days_59 rfl ?_
    exact wp_iret rfl dX9_days_60 ⟨Nat.le_refl _, Nat.le_refl _⟩ h
  · replace h := h.2 c1
    refine wg_iload_n dX9_days_45 rfl ?_
    refine wg_aload_n dX9_days_46 rfl (Nat.succ_ne_zero _) ?_
    refine wg_iconst dX9_days_47 qiconst_0 ?_
    refine wg_callV (I' := mX9_dayIn) (ci := 9) (np := 1) (d' := d) (q := 96) (as := [vI 0]) (st := [vI s2]) dX9_days_48 lk_X9_222 ci_X9_dayIn rfl (Nat.le_of_ble_eq_true rfl) rfl rfl (Nat.le_of_ble_eq_true rfl) rfl (Nat.le_refl _) ⟨Nat.le_refl _, Nat.le_refl _⟩ h (fun v M2 h => ?_)
    obtain ⟨r3, rfl, hS, h⟩ := h
    obtain ⟨o, h⟩ := h
    refine wg_iadd dX9_days_51 o ?_
    refine wg_istore_n (L' := [some (vR 96), some (vI a1), some (vI (s2 + r3)), some (vI s3)]) dX9_days_52 (Nat.le_of_ble_eq_true rfl) rfl ?_
    obtain ⟨o, h⟩ := h
    refine wg_iinc (L' := [some (vR 96), some (vI a1), some (vI (s2 + r3)), some (vI (s3 + 1))]) dX9_days_53 (Nat.le_of_ble_eq_true rfl) rfl rfl o ?_
    refine wg_goto dX9_days_56 rfl ?_
    exact h
set_option maxRecDepth 100000 in
theorem bX9_undo_0 {G : GG} {d : Nat} {M : MM} {Q : Option AV → MM → Prop} (hS : ShM M) (h :
((gI M 96 1) ≠ 0 →
(R32 ((gI M 96 1) - 1) ∧
(∀ M2 : MM, M2 = stI M 96 1 ((gI M 96 1) - 1) →
(R32 (13 * (gI M2 96 1)) ∧
(R32 (52 + (13 * (gI M2 96 1))) ∧
(Ok G mX9_copy d 0 0 [vR 96, vI (52 + (13 * (gI M2 96 1))), vI 0] M2 (fun v M3 => v = none ∧ ShM M3 ∧ 
(Q (some (vI (gI M3 96 1))) M3)))))))) ∧
((gI M 96 1) = 0 →
(Q (some (vI (-2))) M))) :
  Wp G mX9_undo (d + 1) 0 0 0 [some (vR 96)] [] M 0 0 Q := by
  refine wg_aload_n dX9_undo_0 rfl (Nat.succ_ne_zero _) ?_
  refine wg_getI dX9_undo_1 (fl_X9_90 rfl) rfl rfl ?_
  refine wg_if_ne dX9_undo_4 rfl (fun c1 => ?_) (fun c1 => ?_)
  · replace h := h.1 c1
    refine wg_aload_n dX9_undo_10 rfl (Nat.succ_ne_zero _) ?_
    refine wg_dup dX9_undo_11 rfl ?_
    refine wg_getI dX9_undo_12 (fl_X9_90 rfl) rfl rfl ?_
    refine wg_iconst dX9_undo_15 qiconst_1 ?_
    obtain ⟨o, h⟩ := h
    refine wg_isub dX9_undo_16 o ?_
    refine wg_putI dX9_undo_17 (fl_X9_90 rfl) rfl rfl rfl ?_
    generalize hM : stI M 96 1 ((gI M 96 1) - 1) = M2
    replace h := h _ hM.symm
    replace hS : ShM M2 := by rw [← hM]; exact hS
    clear hM
    refine wg_aload_n dX9_undo_20 rfl (Nat.succ_ne_zero _) ?_
    refine wg_bipush dX9_undo_21 qbipush_52 ?_
    refine wg_bipush dX9_undo_23 qbipush_13 ?_
    refine wg_aload_n dX9_undo_25 rfl (Nat.succ_ne_zero _) ?_
    refine wg_getI dX9_undo_26 (fl_X9_90 rfl) rfl rfl ?_
    obtain ⟨o, h⟩ := h
    refine wg_imul dX9_undo_29 o ?_
    obtain ⟨o, h⟩ := h
    refine wg_iadd dX9_undo_30 o ?_
    refine wg_iconst dX9_undo_31 qiconst_0 ?_
    refine wg_callV (I' := mX9_copy) (ci := 9) (np := 2) (d' := d) (q := 96) (as := [vI (52 + (13 * (gI M2 96 1))), vI 0]) (st := []) dX9_undo_32 lk_X9_204 ci_X9_copy rfl (Nat.le_of_ble_eq_true rfl) rfl rfl (Nat.le_of_ble_eq_true rfl) rfl (Nat.le_refl _) ⟨Nat.le_refl _, Nat.le_refl _⟩ h (fun v M3 h => ?_)
    obtain ⟨rfl, hS, h⟩ := h
    refine wg_aload_n dX9_undo_35 rfl (Nat.succ_ne_zero _) ?_
    refine wg_getI dX9_undo_36 (fl_X9_90 rfl) rfl rfl ?_
    exact wp_iret rfl dX9_undo_39 ⟨Nat.le_refl _, Nat.le_refl _⟩ h
  · replace h := h.2 c1
    refine wg_bipush dX9_undo_7 qbipush_m2 ?_
    exact wp_iret rfl dX9_undo_9 ⟨Nat.le_refl _, Nat.le_refl _⟩ h
set_option maxRecDepth 100000 in
theorem bX9_cost_0 {G : GG} {d : Nat} {M : MM} {Q : Option AV → MM → Prop} (a1 : Int) (hS : ShM M) (h :
Ok G mX9_isSet d 0 0 [vR 96, vI a1] M (fun v M1 => ∃ r2 : Int, v = some (vI r2) ∧ ShM M1 ∧ 
((r2 = 0 →
(Q (some (vI (-1))) M1)) ∧
(¬ (r2 = 0) →
(Ok G mX9_costIn d 0 0 [vR 96, vI 0, vI a1] M1 (fun v M4 => ∃ r5 : Int, v = some (vI r5) ∧ ShM M4 ∧ 
(Q (some (vI r5)) M4))))))) :
  Wp G mX9_cost (d + 1) 0 0 0 [some (vR 96), some (vI a1)] [] M 0 0 Q := by
  refine wg_aload_n dX9_cost_0 rfl (Nat.succ_ne_zero _) ?_
  refine wg_iload_n dX9_cost_1 rfl ?_
  refine wg_callV (I' := mX9_isSet) (ci := 9) (np := 1) (d' := d) (q := 96) (as := [vI a1]) (st := []) dX9_cost_2 lk_X9_195 ci_X9_isSet rfl (Nat.le_of_ble_eq_true rfl) rfl rfl (Nat.le_of_ble_eq_true rfl) rfl (Nat.le_refl _) ⟨Nat.le_refl _, Nat.le_refl _⟩ h (fun v M1 h => ?_)
  obtain ⟨r2, rfl, hS, h⟩ := h
  refine wg_if_eq dX9_cost_5 rfl (fun c3 => ?_) (fun c3 => ?_)
  · replace h := h.1 c3
    refine wg_iconst dX9_cost_17 qiconst_m1 ?_
    exact wp_iret rfl dX9_cost_18 ⟨Nat.le_refl _, Nat.le_refl _⟩ h
  · replace h := h.2 c3
    refine wg_aload_n dX9_cost_8 rfl (Nat.succ_ne_zero _) ?_
    refine wg_iconst dX9_cost_9 qiconst_0 ?_
    refine wg_iload_n dX9_cost_10 rfl ?_
    refine wg_callV (I' := mX9_costIn) (ci := 9) (np := 2) (d' := d) (q := 96) (as := [vI 0, vI a1]) (st := []) dX9_cost_11 lk_X9_225 ci_X9_costIn rfl (Nat.le_of_ble_eq_true rfl) rfl rfl (Nat.le_of_ble_eq_true rfl) rfl (Nat.le_refl _) ⟨Nat.le_refl _, Nat.le_refl _⟩ h (fun v M4 h => ?_)
    obtain ⟨r5, rfl, hS, h⟩ := h
    refine wg_goto dX9_cost_14 rfl ?_
    exact wp_iret rfl dX9_cost_18 ⟨Nat.le_refl _, Nat.le_refl _⟩ h
set_option maxRecDepth 100000 in
theorem bX9_leastIn_0 {G : GG} {d : Nat} {M : MM} {Q : Option AV → MM → Prop} (a1 : Int) (a2 : Int) (hS : ShM M) (h :
Ok G mX9_thereIn d 0 0 [vR 96, vI a1] M (fun v M1 => ∃ r2 : Int, v = some (vI r2) ∧ ShM M1 ∧ 
(Wp G mX9_leastIn (d + 1) 0 0 16 [some (vR 96), some (vI a1), some (vI a2), some (vI r2), some (vI (-4)), some (vI 0), some (vI 1), none, none] [] M1 0 0 Q))) :
  Wp G mX9_leastIn (d + 1) 0 0 0 [some (vR 96), some (vI a1), some (vI a2), none, none, none, none, none, none] [] M 0 0 Q := by
  refine wg_aload_n dX9_leastIn_0 rfl (Nat.succ_ne_zero _) ?_
  refine wg_iload_n dX9_leastIn_1 rfl ?_
  refine wg_callV (I' := mX9_thereIn) (ci := 9) (np := 1) (d' := d) (q := 96) (as := [vI a1]) (st := []) dX9_leastIn_2 lk_X9_189 ci_X9_thereIn rfl (Nat.le_of_ble_eq_true rfl) rfl rfl (Nat.le_of_ble_eq_true rfl) rfl (Nat.le_refl _) ⟨Nat.le_refl _, Nat.le_refl _⟩ h (fun v M1 h => ?_)
  obtain ⟨r2, rfl, hS, h⟩ := h
  refine wg_istore_n (L' := [some (vR 96), some (vI a1), some (vI a2), some (vI r2), none, none, none, none, none]) dX9_leastIn_5 (Nat.le_of_ble_eq_true rfl) rfl ?_
  refine wg_bipush dX9_leastIn_6 qbipush_m4 ?_
  refine wg_istore (L' := [some (vR 96), some (vI a1), some (vI a2), some (vI r2), some (vI (-4)), none, none, none, none]) dX9_leastIn_8 (Nat.le_of_ble_eq_true rfl) rfl ?_
  refine wg_iconst dX9_leastIn_10 qiconst_0 ?_
  refine wg_istore (L' := [some (vR 96), some (vI a1), some (vI a2), some (vI r2), some (vI (-4)), some (vI 0), none, none, none]) dX9_leastIn_11 (Nat.le_of_ble_eq_true rfl) rfl ?_
  refine wg_iconst dX9_leastIn_13 qiconst_1 ?_
  refine wg_istore (L' := [some (vR 96), some (vI a1), some (vI a2), some (vI r2), some (vI (-4)), some (vI 0), some (vI 1), none, none]) dX9_leastIn_14 (Nat.le_of_ble_eq_true rfl) rfl ?_
  exact h
set_option maxRecDepth 100000 in
theorem bX9_leastIn_16 {G : GG} {d : Nat} {M : MM} {Q : Option AV → MM → Prop} (a1 : Int) (a2 : Int) (s3 : Int) (s4 : Int) (s5 : Int) (s6 : Int) (hS : ShM M) (h :
((ishlv 1 (gI M 96 5)) ≤ s6 →
(Q (some (vI s4)) M)) ∧
(¬ ((ishlv 1 (gI M 96 5)) ≤ s6) →
(((iandv s6 (ixorv s3 (-1))) ≠ 0 →
(R32 (s6 + 1) ∧
(Wp G mX9_leastIn (d + 1) 0 0 16 [some (vR 96), some (vI a1), some (vI a2), some (vI s3), some (vI s4), some (vI s5), some (vI (s6 + 1)), none, none] [] M 0 0 Q))) ∧
((iandv s6 (ixorv s3 (-1))) = 0 →
(Ok G mX9_strengthOf d 0 0 [vR 96, vI s6] M (fun v M3 => ∃ r4 : Int, v = some (vI r4) ∧ ShM M3 ∧ 
((r4 < a2 →
(R32 (s6 + 1) ∧
(Wp G mX9_leastIn (d + 1) 0 0 16 [some (vR 96), some (vI a1), some (vI a2), some (vI s3), some (vI s4), some (vI s5), some (vI (s6 + 1)), none, none] [] M3 0 0 Q))) ∧
(¬ (r4 < a2) →
(Ok G mX9_costIn d 0 0 [vR 96, vI a1, vI s6] M3 (fun v M6 => ∃ r7 : Int, v = some (vI r7) ∧ ShM M6 ∧ 
((s4 = (-4) →
(R32 (s6 + 1) ∧
(Wp G mX9_leastIn (d + 1) 0 0 16 [some (vR 96), some (vI a1), some (vI a2), some (vI s3), some (vI s6), some (vI r7), some (vI (s6 + 1)), none, none] [] M6 0 0 Q))) ∧
(¬ (s4 = (-4)) →
((r7 < s5 →
(R32 (s6 + 1) ∧
(Wp G mX9_leastIn (d + 1) 0 0 16 [some (vR 96), some (vI a1), some (vI a2), some (vI s3), some (vI s6), some (vI r7), some (vI (s6 + 1)), none, none] [] M6 0 0 Q))) ∧
(¬ (r7 < s5) →
((r7 ≠ s5 →
(R32 (s6 + 1) ∧
(Wp G mX9_leastIn (d + 1) 0 0 16 [some (vR 96), some (vI a1), some (vI a2), some (vI s3), some (vI s4), some (vI s5), some (vI (s6 + 1)), none, none] [] M6 0 0 Q))) ∧
(r7 = s5 →
(Ok G mX9_bits d 0 0 [vI s6] M6 (fun v M11 => ∃ r12 : Int, v = some (vI r12) ∧ ShM M11 ∧ 
(Ok G mX9_bits d 0 0 [vI s4] M11 (fun v M13 => ∃ r14 : Int, v = some (vI r14) ∧ ShM M13 ∧ 
(R32 (s6 + 1) ∧
(Wp G mX9_leastIn (d + 1) 0 0 16 [some (vR 96), some (vI a1), some (vI a2), some (vI s3), some (vI (if (if r14 ≤ r12 then (0 : Int) else 1) = 0 then (s4 : Int) else s6)), some (vI (if (if r14 ≤ r12 then (0 : Int) else 1) = 0 then (s5 : Int) else r7)), some (vI (s6 + 1)), none, none] [] M13 0 0 Q)))))))))))))))))))))) :
  Wp G mX9_leastIn (d + 1) 0 0 16 [some (vR 96), some (vI a1), some (vI a2), some (vI s3), some (vI s4), some (vI s5), some (vI s6), none, none] [] M 0 0 Q := by
  refine wg_iload dX9_leastIn_16 rfl ?_
  refine wg_iconst dX9_leastIn_18 qiconst_1 ?_
  refine wg_aload_n dX9_leastIn_19 rfl (Nat.succ_ne_zero _) ?_
  refine wg_getI dX9_leastIn_20 (fl_X9_74 rfl) rfl rfl ?_
  refine wg_ishl dX9_leastIn_23 ?_
  refine wg_icmp_ge dX9_leastIn_24 rfl (fun c1 => ?_) (fun c1 => ?_)
  · replace h := h.1 c1
    refine wg_iload dX9_leastIn_130 rfl ?_
    exact wp_iret rfl dX9_leastIn_132 ⟨Nat.le_refl _, Nat.le_refl _⟩ h
  · replace h := h.2 c1
    refine wg_iload dX9_leastIn_27 rfl ?_
    refine wg_iload_n dX9_leastIn_29 rfl ?_
    refine wg_iconst dX9_leastIn_30 qiconst_m1 ?_
    refine wg_ixor dX9_leastIn_31 ?_
    refine wg_iand dX9_leastIn_32 ?_
    refine wg_if_ne dX9_leastIn_33 rfl (fun c2 => ?_) (fun c2 => ?_)
    · replace h := h.1 c2
      obtain ⟨o, h⟩ := h
      refine wg_iinc (L' := [some (vR 96), some (vI a1), some (vI a2), some (vI s3), some (vI s4), some (vI s5), some (vI (s6 + 1)), none, none]) dX9_leastIn_124 (Nat.le_of_ble_eq_true rfl) rfl rfl o ?_
      refine wg_goto dX9_leastIn_127 rfl ?_
      exact h
    · replace h := h.2 c2
      refine wg_aload_n dX9_leastIn_36 rfl (Nat.succ_ne_zero _) ?_
      refine wg_iload dX9_leastIn_37 rfl ?_
      refine wg_callV (I' := mX9_strengthOf) (ci := 9) (np := 1) (d' := d) (q := 96) (as := [vI s6]) (st := []) dX9_leastIn_39 lk_X9_198 ci_X9_strengthOf rfl (Nat.le_of_ble_eq_true rfl) rfl rfl (Nat.le_of_ble_eq_true rfl) rfl (Nat.le_refl _) ⟨Nat.le_refl _, Nat.le_refl _⟩ h (fun v M3 h => ?_)
      obtain ⟨r4, rfl, hS, h⟩ := h
      refine wg_iload_n dX9_leastIn_42 rfl ?_
      refine wg_icmp_lt dX9_leastIn_43 rfl (fun c5 => ?_) (fun c5 => ?_)
      · replace h := h.1 c5
        obtain ⟨o, h⟩ := h
        refine wg_iinc (L' := [some (vR 96), some (vI a1), some (vI a2), some (vI s3), some (vI s4), some (vI s5), some (vI (s6 + 1)), none, none]) dX9_leastIn_124 (Nat.le_of_ble_eq_true rfl) rfl rfl o ?_
        refine wg_goto dX9_leastIn_127 rfl ?_
        exact h
      · replace h := h.2 c5
        refine wg_aload_n dX9_leastIn_46 rfl (Nat.succ_ne_zero _) ?_
        refine wg_iload_n dX9_leastIn_47 rfl ?_
        refine wg_iload dX9_leastIn_48 rfl ?_
        refine wg_callV (I' := mX9_costIn) (ci := 9) (np := 2) (d' := d) (q := 96) (as := [vI a1, vI s6]) (st := []) dX9_leastIn_50 lk_X9_225 ci_X9_costIn rfl (Nat.le_of_ble_eq_true rfl) rfl rfl (Nat.le_of_ble_eq_true rfl) rfl (Nat.le_refl _) ⟨Nat.le_refl _, Nat.le_refl _⟩ h (fun v M6 h => ?_)
        obtain ⟨r7, rfl, hS, h⟩ := h
        refine wg_istore (L' := [some (vR 96), some (vI a1), some (vI a2), some (vI s3), some (vI s4), some (vI s5), some (vI s6), some (vI r7), none]) dX9_leastIn_53 (Nat.le_of_ble_eq_true rfl) rfl ?_
        refine wg_iload dX9_leastIn_55 rfl ?_
        refine wg_bipush dX9_leastIn_57 qbipush_m4 ?_
        refine wg_icmp_eq dX9_leastIn_59 rfl (fun c8 => ?_) (fun c8 => ?_)
        · replace h := h.1 c8
          refine wg_iconst dX9_leastIn_89 qiconst_1 ?_
          refine wg_goto dX9_leastIn_90 rfl ?_
          refine wg_istore (L' := [some (vR 96), some (vI a1), some (vI a2), some (vI s3), some (vI s4), some (vI s5), some (vI s6), some (vI r7), some (vI 1)]) dX9_leastIn_94 (Nat.le_of_ble_eq_true rfl) rfl ?_
          refine wg_iload dX9_leastIn_96 rfl ?_
          refine wg_if_eq dX9_leastIn_98 rfl (fun c => absurd c (by decide)) (fun _ => ?_)
          refine wg_iload dX9_leastIn_101 rfl ?_
          refine wg_goto dX9_leastIn_103 rfl ?_
          refine wg_istore (L' := [some (vR 96), some (vI a1), some (vI a2), some (vI s3), some (vI s6), some (vI s5), some (vI s6), some (vI r7), some (vI 1)]) dX9_leastIn_108 (Nat.le_of_ble_eq_true rfl) rfl ?_
          refine wg_iload dX9_leastIn_110 rfl ?_
          refine wg_if_eq dX9_leastIn_112 rfl (fun c => absurd c (by decide)) (fun _ => ?_)
          refine wg_iload dX9_leastIn_115 rfl ?_
          refine wg_goto dX9_leastIn_117 rfl ?_
          refine wg_istore (L' := [some (vR 96), some (vI a1), some (vI a2), some (vI s3), some (vI s6), some (vI r7), some (vI s6), some (vI r7), some (vI 1)]) dX9_leastIn_122 (Nat.le_of_ble_eq_true rfl) rfl ?_
          obtain ⟨o, h⟩ := h
          refine wg_iinc (L' := [some (vR 96), some (vI a1), some (vI a2), some (vI s3), some (vI s6), some (vI r7), some (vI (s6 + 1)), some (vI r7), some (vI 1)]) dX9_leastIn_124 (Nat.le_of_ble_eq_true rfl) rfl rfl o ?_
          refine wg_goto dX9_leastIn_127 rfl ?_
          refine wg_weak [true, true, true, true, true, true, true, false, false] rfl ?_
          exact h
        · replace h := h.2 c8
          refine wg_iload dX9_leastIn_62 rfl ?_
          refine wg_iload dX9_leastIn_64 rfl ?_
          refine wg_icmp_lt dX9_leastIn_66 rfl (fun c9 => ?_) (fun c9 => ?_)
          · replace h := h.1 c9
            refine wg_iconst dX9_leastIn_89 qiconst_1 ?_
            refine wg_goto dX9_leastIn_90 rfl ?_
            refine wg_istore (L' := [some (vR 96), some (vI a1), some (vI a2), some (vI s3), some (vI s4), some (vI s5), some (vI s6), some (vI r7), some (vI 1)]) dX9_leastIn_94 (Nat.le_of_ble_eq_true rfl) rfl ?_
            refine wg_iload dX9_leastIn_96 rfl ?_
            refine wg_if_eq dX9_leastIn_98 rfl (fun c => absurd c (by decide)) (fun _ => ?_)
            refine wg_iload dX9_leastIn_101 rfl ?_
            refine wg_goto dX9_leastIn_103 rfl ?_
            refine wg_istore (L' := [some (vR 96), some (vI a1), some (vI a2), some (vI s3), some (vI s6), some (vI s5), some (vI s6), some (vI r7), some (vI 1)]) dX9_leastIn_108 (Nat.le_of_ble_eq_true rfl) rfl ?_
            refine wg_iload dX9_leastIn_110 rfl ?_
            refine wg_if_eq dX9_leastIn_112 rfl (fun c => absurd c (by decide)) (fun _ => ?_)
            refine wg_iload dX9_leastIn_115 rfl ?_
            refine wg_goto dX9_leastIn_117 rfl ?_
            refine wg_istore (L' := [some (vR 96), some (vI a1), some (vI a2), some (vI s3), some (vI s6), some (vI r7), some (vI s6), some (vI r7), some (vI 1)]) dX9_leastIn_122 (Nat.le_of_ble_eq_true rfl) rfl ?_
            obtain ⟨o, h⟩ := h
            refine wg_iinc (L' := [some (vR 96), some (vI a1), some (vI a2), some (vI s3), some (vI s6), some (vI r7), some (vI (s6 + 1)), some (vI r7), some (vI 1)]) dX9_leastIn_124 (Nat.le_of_ble_eq_true rfl) rfl rfl o ?_
            refine wg_goto dX9_leastIn_127 rfl ?_
            refine wg_weak [true, true, true, true, true, true, true, false, false] rfl ?_
            exact h
          · replace h := h.2 c9
            refine wg_iload dX9_leastIn_69 rfl ?_
            refine wg_iload dX9_leastIn_71 rfl ?_
            refine wg_icmp_ne dX9_leastIn_73 rfl (fun c10 => ?_) (fun c10 => ?_)
            · replace h := h.1 c10
              refine wg_iconst dX9_leastIn_93 qiconst_0 ?_
              refine wg_istore (L' := [some (vR 96), some (vI a1), some (vI a2), some (vI s3), some (vI s4), some (vI s5), some (vI s6), some (vI r7), some (vI 0)]) dX9_leastIn_94 (Nat.le_of_ble_eq_true rfl) rfl ?_
              refine wg_iload dX9_leastIn_96 rfl ?_
              refine wg_if_eq dX9_leastIn_98 rfl (fun _ => ?_) (fun c => absurd c (by decide))
              refine wg_iload dX9_leastIn_106 rfl ?_
              refine wg_istore (L' := [some (vR 96), some (vI a1), some (vI a2), some (vI s3), some (vI s4), some (vI s5), some (vI s6), some (vI r7), some (vI 0)]) dX9_leastIn_108 (Nat.le_of_ble_eq_true rfl) rfl ?_
              refine wg_iload dX9_leastIn_110 rfl ?_
              refine wg_if_eq dX9_leastIn_112 rfl (fun _ => ?_) (fun c => absurd c (by decide))
              refine wg_iload dX9_leastIn_120 rfl ?_
              refine wg_istore (L' := [some (vR 96), some (vI a1), some (vI a2), some (vI s3), some (vI s4), some (vI s5), some (vI s6), some (vI r7), some (vI 0)]) dX9_leastIn_122 (Nat.le_of_ble_eq_true rfl) rfl ?_
              obtain ⟨o, h⟩ := h
              refine wg_iinc (L' := [some (vR 96), some (vI a1), some (vI a2), some (vI s3), some (vI s4), some (vI s5), some (vI (s6 + 1)), some (vI r7), some (vI 0)]) dX9_leastIn_124 (Nat.le_of_ble_eq_true rfl) rfl rfl o ?_
              refine wg_goto dX9_leastIn_127 rfl ?_
              refine wg_weak [true, true, true, true, true, true, true, false, false] rfl ?_
              exact h
            · replace h := h.2 c10
              refine wg_iload dX9_leastIn_76 rfl ?_
              refine wg_callS (I' := mX9_bits) (np := 1) (d' := d) (as := [vI s6]) (st := []) dX9_leastIn_78 lk_X9_214 ci_X9_bits rfl rfl (Nat.le_of_ble_eq_true rfl) (Nat.le_refl _) ⟨Nat.le_refl _, Nat.le_refl _⟩ h (fun v M11 h => ?_)
              obtain ⟨r12, rfl, hS, h⟩ := h
              refine wg_iload dX9_leastIn_81 rfl ?_
              refine wg_callS (I' := mX9_bits) (np := 1) (d' := d) (as := [vI s4]) (st := [vI r12]) dX9_leastIn_83 lk_X9_214 ci_X9_bits rfl rfl (Nat.le_of_ble_eq_true rfl) (Nat.le_refl _) ⟨Nat.le_refl _, Nat.le_refl _⟩ h (fun v M13 h => ?_)
              obtain ⟨r14, rfl, hS, h⟩ := h
              have hJ20 : Wp G mX9_leastIn (d + 1) 0 0 94 [some (vR 96), some (vI a1), some (vI a2), some (vI s3), some (vI s4), some (vI s5), some (vI s6), some (vI r7), none] [vI (if r14 ≤ r12 then (0 : Int) else 1)] M13 0 0 Q := by
                refine wg_istore (L' := [some (vR 96), some (vI a1), some (vI a2), some (vI s3), some (vI s4), some (vI s5), some (vI s6), some (vI r7), some (vI (if r14 ≤ r12 then (0 : Int) else 1))]) dX9_leastIn_94 (Nat.le_of_ble_eq_true rfl) rfl ?_
                refine wg_iload dX9_leastIn_96 rfl ?_
                have hJ19 : Wp G mX9_leastIn (d + 1) 0 0 108 [some (vR 96), some (vI a1), some (vI a2), some (vI s3), some (vI s4), some (vI s5), some (vI s6), some (vI r7), some (vI (if r14 ≤ r12 then (0 : Int) else 1))] [vI (if (if r14 ≤ r12 then (0 : Int) else 1) = 0 then (s4 : Int) else s6)] M13 0 0 Q := by
                  refine wg_istore (L' := [some (vR 96), some (vI a1), some (vI a2), some (vI s3), some (vI (if (if r14 ≤ r12 then (0 : Int) else 1) = 0 then (s4 : Int) else s6)), some (vI s5), some (vI s6), some (vI r7), some (vI (if r14 ≤ r12 then (0 : Int) else 1))]) dX9_leastIn_108 (Nat.le_of_ble_eq_true rfl) rfl ?_
                  refine wg_iload dX9_leastIn_110 rfl ?_
                  have hJ18 : Wp G mX9_leastIn (d + 1) 0 0 122 [some (vR 96), some (vI a1), some (vI a2), some (vI s3), some (vI (if (if r14 ≤ r12 then (0 : Int) else 1) = 0 then (s4 : Int) else s6)), some (vI s5), some (vI s6), some (vI r7), some (vI (if r14 ≤ r12 then (0 : Int) else 1))] [vI (if (if r14 ≤ r12 then (0 : Int) else 1) = 0 then (s5 : Int) else r7)] M13 0 0 Q := by
                    refine wg_istore (L' := [some (vR 96), some (vI a1), some (vI a2), some (vI s3), some (vI (if (if r14 ≤ r12 then (0 : Int) else 1) = 0 then (s4 : Int) else s6)), some (vI (if (if r14 ≤ r12 then (0 : Int) else 1) = 0 then (s5 : Int) else r7)), some (vI s6), some (vI r7), some (vI (if r14 ≤ r12 then (0 : Int) else 1))]) dX9_leastIn_122 (Nat.le_of_ble_eq_true rfl) rfl ?_
                    obtain ⟨o, h⟩ := h
                    refine wg_iinc (L' := [some (vR 96), some (vI a1), some (vI a2), some (vI s3), some (vI (if (if r14 ≤ r12 then (0 : Int) else 1) = 0 then (s4 : Int) else s6)), some (vI (if (if r14 ≤ r12 then (0 : Int) else 1) = 0 then (s5 : Int) else r7)), some (vI (s6 + 1)), some (vI r7), some (vI (if r14 ≤ r12 then (0 : Int) else 1))]) dX9_leastIn_124 (Nat.le_of_ble_eq_true rfl) rfl rfl o ?_
                    refine wg_goto dX9_leastIn_127 rfl ?_
                    refine wg_weak [true, true, true, true, true, true, true, false, false] rfl ?_
                    exact h
                  refine wg_if_eq dX9_leastIn_112 rfl (fun c17 => ?_) (fun c17 => ?_)
                  · rw [show (if (if r14 ≤ r12 then (0 : Int) else 1) = 0 then (s5 : Int) else r7) = s5 from if_pos c17] at hJ18
                    refine wg_iload dX9_leastIn_120 rfl ?_
                    exact hJ18
                  · rw [show (if (if r14 ≤ r12 then (0 : Int) else 1) = 0 then (s5 : Int) else r7) = r7 from if_neg c17] at hJ18
                    refine wg_iload dX9_leastIn_115 rfl ?_
                    refine wg_goto dX9_leastIn_117 rfl ?_
                    exact hJ18
                refine wg_if_eq dX9_leastIn_98 rfl (fun c16 => ?_) (fun c16 => ?_)
                · rw [show (if (if r14 ≤ r12 then (0 : Int) else 1) = 0 then (s4 : Int) else s6) = s4 from if_pos c16] at hJ19
                  refine wg_iload dX9_leastIn_106 rfl ?_
                  exact hJ19
                · rw [show (if (if r14 ≤ r12 then (0 : Int) else 1) = 0 then (s4 : Int) else s6) = s6 from if_neg c16] at hJ19
                  refine wg_iload dX9_leastIn_101 rfl ?_
                  refine wg_goto dX9_leastIn_103 rfl ?_
                  exact hJ19
              refine wg_icmp_ge dX9_leastIn_86 rfl (fun c15 => ?_) (fun c15 => ?_)
              · rw [show (if r14 ≤ r12 then (0 : Int) else 1) = 0 from if_pos c15] at hJ20
                refine wg_iconst dX9_leastIn_93 qiconst_0 ?_
                exact hJ20
              · rw [show (if r14 ≤ r12 then (0 : Int) else 1) = 1 from if_neg c15] at hJ20
                refine wg_iconst dX9_leastIn_89 qiconst_1 ?_
                refine wg_goto dX9_leastIn_90 rfl ?_
                exact hJ20
set_option maxRecDepth 100000 in
theorem bX9_least_0 {G : GG} {d : Nat} {M : MM} {Q : Option AV → MM → Prop} (a1 : Int) (a2 : Int) (hS : ShM M) (h :
Ok G mX9_isBeast d 0 0 [vR 96, vI a1] M (fun v M1 => ∃ r2 : Int, v = some (vI r2) ∧ ShM M1 ∧ 
((r2 = 0 →
(Q (some (vI (-1))) M1)) ∧
(¬ (r2 = 0) →
(Ok G mX9_in d 0 0 [vL a2, vL 0, vL 1] M1 (fun v M4 => ∃ r5 : Int, v = some (vI r5) ∧ ShM M4 ∧ 
((r5 ≠ 0 →
(((0 : Int) ≤ a1 ∧ (a1 : Int) < 4) ∧
(Ok G mX9_leastIn d 0 0 [vR 96, vI 0, vI (gI M4 104 a1.toNat)] M4 (fun v M8 => ∃ r9 : Int, v = some (vI r9) ∧ ShM M8 ∧ 
((r9 = (-4) →
(Q (some (vI r9)) M8)) ∧
(¬ (r9 = (-4)) →
((a2 ≠ 0 →
(Ok G mX9_costIn d 0 0 [vR 96, vI 0, vI r9] M8 (fun v M12 => ∃ r13 : Int, v = some (vI r13) ∧ ShM M12 ∧ 
(Q (some (vI r13)) M12)))) ∧
(a2 = 0 →
(Q (some (vI r9)) M8))))))))) ∧
(r5 = 0 →
(Q (some (vI (-1))) M4))))))))) :
  Wp G mX9_least (d + 1) 0 0 0 [some (vR 96), some (vI a1), some (vI a2), none] [] M 0 0 Q := by
  refine wg_aload_n dX9_least_0 rfl (Nat.succ_ne_zero _) ?_
  refine wg_iload_n dX9_least_1 rfl ?_
  refine wg_callV (I' := mX9_isBeast) (ci := 9) (np := 1) (d' := d) (q := 96) (as := [vI a1]) (st := []) dX9_least_2 lk_X9_192 ci_X9_isBeast rfl (Nat.le_of_ble_eq_true rfl) rfl rfl (Nat.le_of_ble_eq_true rfl) rfl (Nat.le_refl _) ⟨Nat.le_refl _, Nat.le_refl _⟩ h (fun v M1 h => ?_)
  obtain ⟨r2, rfl, hS, h⟩ := h
  refine wg_if_eq dX9_least_5 rfl (fun c3 => ?_) (fun c3 => ?_)
  · replace h := h.1 c3
    refine wg_iconst dX9_least_18 qiconst_m1 ?_
    exact wp_iret rfl dX9_least_19 ⟨Nat.le_refl _, Nat.le_refl _⟩ h
  · replace h := h.2 c3
    refine wg_iload_n dX9_least_8 rfl ?_
    refine wg_i2l dX9_least_9 ?_
    refine wg_lconst dX9_least_10 rfl ?_
    refine wg_lconst dX9_least_11 rfl ?_
    refine wg_callS (I' := mX9_in) (np := 3) (d' := d) (as := [vL a2, vL 0, vL 1]) (st := []) dX9_least_12 lk_X9_100 ci_X9_in rfl rfl (Nat.le_of_ble_eq_true rfl) (Nat.le_refl _) ⟨Nat.le_refl _, Nat.le_refl _⟩ h (fun v M4 h => ?_)
    obtain ⟨r5, rfl, hS, h⟩ := h
    refine wg_if_ne dX9_least_15 rfl (fun c6 => ?_) (fun c6 => ?_)
    · replace h := h.1 c6
      refine wg_aload_n dX9_least_20 rfl (Nat.succ_ne_zero _) ?_
      refine wg_iconst dX9_least_21 qiconst_0 ?_
      refine wg_aload_n dX9_least_22 rfl (Nat.succ_ne_zero _) ?_
      refine wg_getRe dX9_least_23 (fl_X9_31 rfl) rfl rfl (sm14 hS) ?_
      refine wg_iload_n dX9_least_26 rfl ?_
      obtain ⟨o7, h⟩ := h
      refine wg_iald dX9_least_27 rfl o7.1 o7.2 ?_
      refine wg_callV (I' := mX9_leastIn) (ci := 9) (np := 2) (d' := d) (q := 96) (as := [vI 0, vI (gI M4 104 a1.toNat)]) (st := []) dX9_least_28 lk_X9_229 ci_X9_leastIn rfl (Nat.le_of_ble_eq_true rfl) rfl rfl (Nat.le_of_ble_eq_true rfl) rfl (Nat.le_refl _) ⟨Nat.le_refl _, Nat.le_refl _⟩ h (fun v M8 h => ?_)
      obtain ⟨r9, rfl, hS, h⟩ := h
      refine wg_istore_n (L' := [some (vR 96), some (vI a1), some (vI a2), some (vI r9)]) dX9_least_31 (Nat.le_of_ble_eq_true rfl) rfl ?_
      refine wg_iload_n dX9_least_32 rfl ?_
      refine wg_bipush dX9_least_33 qbipush_m4 ?_
      refine wg_icmp_eq dX9_least_35 rfl (fun c10 => ?_) (fun c10 => ?_)
      · replace h := h.1 c10
        refine wg_iload_n dX9_least_42 rfl ?_
        refine wg_goto dX9_least_43 rfl ?_
        exact wp_iret rfl dX9_least_52 ⟨Nat.le_refl _, Nat.le_refl _⟩ h
      · replace h := h.2 c10
        refine wg_iload_n dX9_least_38 rfl ?_
        refine wg_if_ne dX9_least_39 rfl (fun c11 => ?_) (fun c11 => ?_)
        · replace h := h.1 c11
          refine wg_aload_n dX9_least_46 rfl (Nat.succ_ne_zero _) ?_
          refine wg_iconst dX9_least_47 qiconst_0 ?_
          refine wg_iload_n dX9_least_48 rfl ?_
          refine wg_callV (I' := mX9_costIn) (ci := 9) (np := 2) (d' := d) (q := 96) (as := [vI 0, vI r9]) (st := []) dX9_least_49 lk_X9_225 ci_X9_costIn rfl (Nat.le_of_ble_eq_true rfl) rfl rfl (Nat.le_of_ble_eq_true rfl) rfl (Nat.le_refl _) ⟨Nat.le_refl _, Nat.le_refl _⟩ h (fun v M12 h => ?_)
          obtain ⟨r13, rfl, hS, h⟩ := h
          exact wp_iret rfl dX9_least_52 ⟨Nat.le_refl _, Nat.le_refl _⟩ h
        · replace h := h.2 c11
          refine wg_iload_n dX9_least_42 rfl ?_
          refine wg_goto dX9_least_43 rfl ?_
          exact wp_iret rfl dX9_least_52 ⟨Nat.le_refl _, Nat.le_refl _⟩ h
    · replace h := h.2 c6
      refine wg_iconst dX9_least_18 qiconst_m1 ?_
      exact wp_iret rfl dX9_least_19 ⟨Nat.le_refl _, Nat.le_refl _⟩ h
set_option maxRecDepth 100000 in
theorem bX9_lowest_0 {G : GG} {d : Nat} {M : MM} {Q : Option AV → MM → Prop} (a1 : Int) (hS : ShM M) (h :
Wp G mX9_lowest (d + 1) 0 0 2 [none, some (vI a1), some (vI 0)] [] M 0 0 Q) :
  Wp G mX9_lowest (d + 1) 0 0 0 [some (vR 96), some (vI a1), none] [] M 0 0 Q := by
  refine wg_iconst dX9_lowest_0 qiconst_0 ?_
  refine wg_istore_n (L' := [some (vR 96), some (vI a1), some (vI 0)]) dX9_lowest_1 (Nat.le_of_ble_eq_true rfl) rfl ?_
  refine wg_weak [false, true, true] rfl ?_
  exact h
set_option maxRecDepth 100000 in
theorem bX9_lowest_2 {G : GG} {d : Nat} {M : MM} {Q : Option AV → MM → Prop} (a1 : Int) (s2 : Int) (hS : ShM M) (h :
Ok G mX9_has d 0 0 [vI a1, vI s2] M (fun v M1 => ∃ r2 : Int, v = some (vI r2) ∧ ShM M1 ∧ 
((r2 ≠ 0 →
(Q (some (vI s2)) M1)) ∧
(r2 = 0 →
(R32 (s2 + 1) ∧
(Wp G mX9_lowest (d + 1) 0 0 2 [none, some (vI a1), some (vI (s2 + 1))] [] M1 0 0 Q)))))) :
  Wp G mX9_lowest (d + 1) 0 0 2 [none, some (vI a1), some (vI s2)] [] M 0 0 Q := by
  refine wg_iload_n dX9_lowest_2 rfl ?_
  refine wg_iload_n dX9_lowest_3 rfl ?_
  refine wg_callS (I' := mX9_has) (np := 2) (d' := d) (as := [vI a1, vI s2]) (st := []) dX9_lowest_4 lk_X9_166 ci_X9_has rfl rfl (Nat.le_of_ble_eq_true rfl) (Nat.le_refl _) ⟨Nat.le_refl _, Nat.le_refl _⟩ h (fun v M1 h => ?_)
  obtain ⟨r2, rfl, hS, h⟩ := h
  refine wg_if_ne dX9_lowest_7 rfl (fun c3 => ?_) (fun c3 => ?_)
  · replace h := h.1 c3
    refine wg_iload_n dX9_lowest_16 rfl ?_
    exact wp_iret rfl dX9_lowest_17 ⟨Nat.le_refl _, Nat.le_refl _⟩ h
  · replace h := h.2 c3
    obtain ⟨o, h⟩ := h
    refine wg_iinc (L' := [none, some (vI a1), some (vI (s2 + 1))]) dX9_lowest_10 (Nat.le_of_ble_eq_true rfl) rfl rfl o ?_
    refine wg_goto dX9_lowest_13 rfl ?_
    exact h
set_option maxRecDepth 100000 in
theorem bX9_canHold_0 {G : GG} {d : Nat} {M : MM} {Q : Option AV → MM → Prop} (a1 : Int) (a2 : Int) (hS : ShM M) (h :
Ok G mX9_lowest d 0 0 [vR 96, vI a1] M (fun v M1 => ∃ r2 : Int, v = some (vI r2) ∧ ShM M1 ∧ 
(Wp G mX9_canHold (d + 1) 0 0 21 [some (vR 96), none, some (vI a2), some (vI r2), some (vI (iandv a1 (ixorv (ishlv 1 r2) (-1)))), some (vI 0), some (vI a2)] [] M1 0 0 Q))) :
  Wp G mX9_canHold (d + 1) 0 0 0 [some (vR 96), some (vI a1), some (vI a2), none, none, none, none] [] M 0 0 Q := by
  refine wg_aload_n dX9_canHold_0 rfl (Nat.succ_ne_zero _) ?_
  refine wg_iload_n dX9_canHold_1 rfl ?_
  refine wg_callV (I' := mX9_lowest) (ci := 9) (np := 1) (d' := d) (q := 96) (as := [vI a1]) (st := []) dX9_canHold_2 lk_X9_232 ci_X9_lowest rfl (Nat.le_of_ble_eq_true rfl) rfl rfl (Nat.le_of_ble_eq_true rfl) rfl (Nat.le_refl _) ⟨Nat.le_refl _, Nat.le_refl _⟩ h (fun v M1 h => ?_)
  obtain ⟨r2, rfl, hS, h⟩ := h
  refine wg_istore_n (L' := [some (vR 96), some (vI a1), some (vI a2), some (vI r2), none, none, none]) dX9_canHold_5 (Nat.le_of_ble_eq_true rfl) rfl ?_
  refine wg_iload_n dX9_canHold_6 rfl ?_
  refine wg_iconst dX9_canHold_7 qiconst_1 ?_
  refine wg_iload_n dX9_canHold_8 rfl ?_
  refine wg_ishl dX9_canHold_9 ?_
  refine wg_iconst dX9_canHold_10 qiconst_m1 ?_
  refine wg_ixor dX9_canHold_11 ?_
  refine wg_iand dX9_canHold_12 ?_
  refine wg_istore (L' := [some (vR 96), some (vI a1), some (vI a2), some (vI r2), some (vI (iandv a1 (ixorv (ishlv 1 r2) (-1)))), none, none]) dX9_canHold_13 (Nat.le_of_ble_eq_true rfl) rfl ?_
  refine wg_iconst dX9_canHold_15 qiconst_0 ?_
  refine wg_istore (L' := [some (vR 96), some (vI a1), some (vI a2), some (vI r2), some (vI (iandv a1 (ixorv (ishlv 1 r2) (-1)))), some (vI 0), none]) dX9_canHold_16 (Nat.le_of_ble_eq_true rfl) rfl ?_
  refine wg_iload_n dX9_canHold_18 rfl ?_
  refine wg_istore (L' := [some (vR 96), some (vI a1), some (vI a2), some (vI r2), some (vI (iandv a1 (ixorv (ishlv 1 r2) (-1)))), some (vI 0), some (vI a2)]) dX9_canHold_19 (Nat.le_of_ble_eq_true rfl) rfl ?_
  refine wg_weak [true, false, true, true, true, true, true] rfl ?_
  exact h
set_option maxRecDepth 100000 in
theorem bX9_canHold_21 {G : GG} {d : Nat} {M : MM} {Q : Option AV → MM → Prop} (a2 : Int) (s3 : Int) (s4 : Int) (s5 : Int) (s6 : Int) (hS : ShM M) (h :
(s6 ≤ 0 →
((s5 = 0 ∨ s5 = 1) ∧ Q (some (vI s5)) M)) ∧
(¬ (s6 ≤ 0) →
((s5 ≠ 0 →
((s5 = 0 ∨ s5 = 1) ∧ Q (some (vI s5)) M)) ∧
(s5 = 0 →
(((0 : Int) ≤ s6 ∧ (s6 : Int) < 1024) ∧
(((0 : Int) ≤ s3 ∧ (s3 : Int) < 4) ∧
(((gI M 108 s6.toNat) < (gI M 104 s3.toNat) →
(R32 (s6 - 1) ∧
(Wp G mX9_canHold (d + 1) 0 0 21 [some (vR 96), none, some (vI a2), some (vI s3), some (vI s4), some (vI 0), some (vI (iandv (s6 - 1) a2))] [] M 0 0 Q))) ∧
(¬ ((gI M 108 s6.toNat) < (gI M 104 s3.toNat)) →
(R32 (1024 * s4) ∧
(R32 ((1024 * s4) + (iandv a2 (ixorv s6 (-1)))) ∧
(((0 : Int) ≤ (1024 * s4) + (iandv a2 (ixorv s6 (-1))) ∧ ((1024 * s4) + (iandv a2 (ixorv s6 (-1))) : Int) < 16384) ∧
(R32 (s6 - 1) ∧
(Wp G mX9_canHold (d + 1) 0 0 21 [some (vR 96), none, some (vI a2), some (vI s3), some (vI s4), some (vI (if (gI M 107 ((1024 * s4) + (iandv a2 (ixorv s6 (-1)))).toNat) = 0 then (0 : Int) else 1)), some (vI (iandv (s6 - 1) a2))] [] M 0 0 Q))))))))))))) :
  Wp G mX9_canHold (d + 1) 0 0 21 [some (vR 96), none, some (vI a2), some (vI s3), some (vI s4), some (vI s5), some (vI s6)] [] M 0 0 Q := by
  refine wg_iload dX9_canHold_21 rfl ?_
  refine wg_if_le dX9_canHold_23 rfl (fun c1 => ?_) (fun c1 => ?_)
  · replace h := h.1 c1
    refine wg_iload dX9_canHold_86 rfl ?_
    obtain ⟨o, h⟩ := h
    exact wp_zret rfl dX9_canHold_88 ⟨Nat.le_refl _, Nat.le_refl _⟩ o h
  · replace h := h.2 c1
    refine wg_iload dX9_canHold_26 rfl ?_
    refine wg_if_ne dX9_canHold_28 rfl (fun c2 => ?_) (fun c2 => ?_)
    · replace h := h.1 c2
      refine wg_iload dX9_canHold_86 rfl ?_
      obtain ⟨o, h⟩ := h
      exact wp_zret rfl dX9_canHold_88 ⟨Nat.le_refl _, Nat.le_refl _⟩ o h
    · replace h := h.2 c2
      refine wg_aload_n dX9_canHold_31 rfl (Nat.succ_ne_zero _) ?_
      refine wg_getRe dX9_canHold_32 (fl_X9_44 rfl) rfl rfl (sm25 hS) ?_
      refine wg_iload dX9_canHold_35 rfl ?_
      obtain ⟨o3, h⟩ := h
      refine wg_iald dX9_canHold_37 rfl o3.1 o3.2 ?_
      refine wg_aload_n dX9_canHold_38 rfl (Nat.succ_ne_zero _) ?_
      refine wg_getRe dX9_canHold_39 (fl_X9_31 rfl) rfl rfl (sm14 hS) ?_
      refine wg_iload_n dX9_canHold_42 rfl ?_
      obtain ⟨o4, h⟩ := h
      refine wg_iald dX9_canHold_43 rfl o4.1 o4.2 ?_
      refine wg_icmp_lt dX9_canHold_44 rfl (fun c5 => ?_) (fun c5 => ?_)
      · replace h := h.1 c5
        refine wg_iconst dX9_canHold_72 qiconst_0 ?_
        refine wg_istore (L' := [some (vR 96), none, some (vI a2), some (vI s3), some (vI s4), some (vI 0), some (vI s6)]) dX9_canHold_73 (Nat.le_of_ble_eq_true rfl) rfl ?_
        refine wg_iload dX9_canHold_75 rfl ?_
        refine wg_iconst dX9_canHold_77 qiconst_1 ?_
        obtain ⟨o, h⟩ := h
        refine wg_isub dX9_canHold_78 o ?_
        refine wg_iload_n dX9_canHold_79 rfl ?_
        refine wg_iand dX9_canHold_80 ?_
        refine wg_istore (L' := [some (vR 96), none, some (vI a2), some (vI s3), some (vI s4), some (vI 0), some (vI (iandv (s6 - 1) a2))]) dX9_canHold_81 (Nat.le_of_ble_eq_true rfl) rfl ?_
        refine wg_goto dX9_canHold_83 rfl ?_
        exact h
      · replace h := h.2 c5
        refine wg_aload_n dX9_canHold_47 rfl (Nat.succ_ne_zero _) ?_
        refine wg_getRe dX9_canHold_48 (fl_X9_40 rfl) rfl rfl (sm24 hS) ?_
        refine wg_sipush dX9_canHold_51 qsipush_1024 ?_
        refine wg_iload dX9_canHold_54 rfl ?_
        obtain ⟨o, h⟩ := h
        refine wg_imul dX9_canHold_56 o ?_
        refine wg_iload_n dX9_canHold_57 rfl ?_
        refine wg_iload dX9_canHold_58 rfl ?_
        refine wg_iconst dX9_canHold_60 qiconst_m1 ?_
        refine wg_ixor dX9_canHold_61 ?_
        refine wg_iand dX9_canHold_62 ?_
        obtain ⟨o, h⟩ := h
        refine wg_iadd dX9_canHold_63 o ?_
        obtain ⟨o6, h⟩ := h
        refine wg_bald dX9_canHold_64 rfl o6.1 o6.2 ?_
        have hJ8 : Wp G mX9_canHold (d + 1) 0 0 73 [some (vR 96), none, some (vI a2), some (vI s3), some (vI s4), some (vI s5), some (vI s6)] [vI (if (gI M 107 ((1024 * s4) + (iandv a2 (ixorv s6 (-1)))).toNat) = 0 then (0 : Int) else 1)] M 0 0 Q := by
          refine wg_istore (L' := [some (vR 96), none, some (vI a2), some (vI s3), some (vI s4), some (vI (if (gI M 107 ((1024 * s4) + (iandv a2 (ixorv s6 (-1)))).toNat) = 0 then (0 : Int) else 1)), some (vI s6)]) dX9_canHold_73 (Nat.le_of_ble_eq_true rfl) rfl ?_
          refine wg_iload dX9_canHold_75 rfl ?_
          refine wg_iconst dX9_canHold_77 qiconst_1 ?_
          obtain ⟨o, h⟩ := h
          refine wg_isub dX9_canHold_78 o ?_
          refine wg_iload_n dX9_canHold_79 rfl ?_
          refine wg_iand dX9_canHold_80 ?_
          refine wg_istore (L' := [some (vR 96), none, some (vI a2), some (vI s3), some (vI s4), some (vI (if (gI M 107 ((1024 * s4) + (iandv a2 (ixorv s6 (-1)))).toNat) = 0 then (0 : Int) else 1)), some (vI (iandv (s6 - 1) a2))]) dX9_canHold_81 (Nat.le_of_ble_eq_true rfl) rfl ?_
          refine wg_goto dX9_canHold_83 rfl ?_
          exact h
        refine wg_if_eq dX9_canHold_65 rfl (fun c7 => ?_) (fun c7 => ?_)
        · rw [show (if (gI M 107 ((1024 * s4) + (iandv a2 (ixorv s6 (-1)))).toNat) = 0 then (0 : Int) else 1) = 0 from if_pos c7] at hJ8
          refine wg_iconst dX9_canHold_72 qiconst_0 ?_
          exact hJ8
        · rw [show (if (gI M 107 ((1024 * s4) + (iandv a2 (ixorv s6 (-1)))).toNat) = 0 then (0 : Int) else 1) = 1 from if_neg c7] at hJ8
          refine wg_iconst dX9_canHold_68 qiconst_1 ?_
          refine wg_goto dX9_canHold_69 rfl ?_
          exact hJ8
set_option maxRecDepth 100000 in
theorem bX9_unbound_0 {G : GG} {d : Nat} {M : MM} {Q : Option AV → MM → Prop} (hS : ShM M) (h :
Wp G mX9_unbound d 0 0 4 [some (vR 96), some (vI 0), some (vI 0)] [] M 0 0 Q) :
  Wp G mX9_unbound d 0 0 0 [some (vR 96), none, none] [] M 0 0 Q := by
  refine wg_iconst dX9_unbound_0 qiconst_0 ?_
  refine wg_istore_n (L' := [some (vR 96), some (vI 0), none]) dX9_unbound_1 (Nat.le_of_ble_eq_true rfl) rfl ?_
  refine wg_iconst dX9_unbound_2 qiconst_0 ?_
  refine wg_istore_n (L' := [some (vR 96), some (vI 0), some (vI 0)]) dX9_unbound_3 (Nat.le_of_ble_eq_true rfl) rfl ?_
  exact h
set_option maxRecDepth 100000 in
theorem bX9_unbound_4 {G : GG} {d : Nat} {M : MM} {Q : Option AV → MM → Prop} (s1 : Int) (s2 : Int) (hS : ShM M) (h :
((gI M 96 13) ≤ s2 →
(Q (some (vI s1)) M)) ∧
(¬ ((gI M 96 13) ≤ s2) →
(R32 (0 + s2) ∧
(((0 : Int) ≤ 0 + s2 ∧ (0 + s2 : Int) < 156) ∧
(R32 (s2 + 1) ∧
(Wp G mX9_unbound d 0 0 4 [some (vR 96), some (vI (iorv s1 (if (gI M 97 (0 + s2).toNat) = 0 then (ishlv 1 s2 : Int) else 0))), some (vI (s2 + 1))] [] M 0 0 Q)))))) :
  Wp G mX9_unbound d 0 0 4 [some (vR 96), some (vI s1), some (vI s2)] [] M 0 0 Q := by
  refine wg_iload_n dX9_unbound_4 rfl ?_
  refine wg_aload_n dX9_unbound_5 rfl (Nat.succ_ne_zero _) ?_
  refine wg_getI dX9_unbound_6 (fl_X9_84 rfl) rfl rfl ?_
  refine wg_icmp_ge dX9_unbound_9 rfl (fun c1 => ?_) (fun c1 => ?_)
  · replace h := h.1 c1
    refine wg_iload_n dX9_unbound_39 rfl ?_
    exact wp_iret rfl dX9_unbound_40 ⟨Nat.le_refl _, Nat.le_refl _⟩ h
  · replace h := h.2 c1
    refine wg_iload_n dX9_unbound_12 rfl ?_
    refine wg_aload_n dX9_unbound_13 rfl (Nat.succ_ne_zero _) ?_
    refine wg_getRe dX9_unbound_14 (fl_X9_7 rfl) rfl rfl (sm0 hS) ?_
    refine wg_iconst dX9_unbound_17 qiconst_0 ?_
    refine wg_iload_n dX9_unbound_18 rfl ?_
    obtain ⟨o, h⟩ := h
    refine wg_iadd dX9_unbound_19 o ?_
    obtain ⟨o2, h⟩ := h
    refine wg_iald dX9_unbound_20 rfl o2.1 o2.2 ?_
    have hJ4 : Wp G mX9_unbound d 0 0 31 [some (vR 96), some (vI s1), some (vI s2)] [vI (if (gI M 97 (0 + s2).toNat) = 0 then (ishlv 1 s2 : Int) else 0), vI s1] M 0 0 Q := by
      refine wg_ior dX9_unbound_31 ?_
      refine wg_istore_n (L' := [some (vR 96), some (vI (iorv s1 (if (gI M 97 (0 + s2).toNat) = 0 then (ishlv 1 s2 : Int) else 0))), some (vI s2)]) dX9_unbound_32 (Nat.le_of_ble_eq_true rfl) rfl ?_
      obtain ⟨o, h⟩ := h
      refine wg_iinc (L' := [some (vR 96), some (vI (iorv s1 (if (gI M 97 (0 + s2).toNat) = 0 then (ishlv 1 s2 : Int) else 0))), some (vI (s2 + 1))]) dX9_unbound_33 (Nat.le_of_ble_eq_true rfl) rfl rfl o ?_
      refine wg_goto dX9_unbound_36 rfl ?_
      exact h
    refine wg_if_ne dX9_unbound_21 rfl (fun c3 => ?_) (fun c3 => ?_)
    · rw [show (if (gI M 97 (0 + s2).toNat) = 0 then (ishlv 1 s2 : Int) else 0) = 0 from if_neg c3] at hJ4
      refine wg_iconst dX9_unbound_30 qiconst_0 ?_
      exact hJ4
    · rw [show (if (gI M 97 (0 + s2).toNat) = 0 then (ishlv 1 s2 : Int) else 0) = ishlv 1 s2 from if_pos c3] at hJ4
      refine wg_iconst dX9_unbound_24 qiconst_1 ?_
      refine wg_iload_n dX9_unbound_25 rfl ?_
      refine wg_ishl dX9_unbound_26 ?_
      refine wg_goto dX9_unbound_27 rfl ?_
      exact hJ4
set_option maxRecDepth 100000 in
theorem bX9_layHolds_0 {G : GG} {d : Nat} {M : MM} {Q : Option AV → MM → Prop} (a1 : Int) (hS : ShM M) (h :
Wp G mX9_layHolds (d + 1) 0 0 2 [some (vR 96), some (vI a1), some (vI 0), none] [] M 0 0 Q) :
  Wp G mX9_layHolds (d + 1) 0 0 0 [some (vR 96), some (vI a1), none, none] [] M 0 0 Q := by
  refine wg_iconst dX9_layHolds_0 qiconst_0 ?_
  refine wg_istore_n (L' := [some (vR 96), some (vI a1), some (vI 0), none]) dX9_layHolds_1 (Nat.le_of_ble_eq_true rfl) rfl ?_
  exact h
set_option maxRecDepth 100000 in
theorem bX9_layHolds_2 {G : GG} {d : Nat} {M : MM} {Q : Option AV → MM → Prop} (a1 : Int) (s2 : Int) (hS : ShM M) (h :
((ishlv 1 (gI M 96 5)) ≤ s2 →
(Wp G mX9_layHolds (d + 1) 0 0 31 [some (vR 96), some (vI a1), some (vI 0), none] [] M 0 0 Q)) ∧
(¬ ((ishlv 1 (gI M 96 5)) ≤ s2) →
(Ok G mX9_strengthOf d 0 0 [vR 96, vI s2] M (fun v M2 => ∃ r3 : Int, v = some (vI r3) ∧ ShM M2 ∧ 
(((0 : Int) ≤ s2 ∧ (s2 : Int) < 1024) ∧
(∀ M5 : MM, M5 = stI M2 108 s2.toNat r3 →
(R32 (s2 + 1) ∧
(Wp G mX9_layHolds (d + 1) 0 0 2 [some (vR 96), some (vI a1), some (vI (s2 + 1)), none] [] M5 0 0 Q)))))))) :
  Wp G mX9_layHolds (d + 1) 0 0 2 [some (vR 96), some (vI a1), some (vI s2), none] [] M 0 0 Q := by
  refine wg_iload_n dX9_layHolds_2 rfl ?_
  refine wg_iconst dX9_layHolds_3 qiconst_1 ?_
  refine wg_aload_n dX9_layHolds_4 rfl (Nat.succ_ne_zero _) ?_
  refine wg_getI dX9_layHolds_5 (fl_X9_74 rfl) rfl rfl ?_
  refine wg_ishl dX9_layHolds_8 ?_
  refine wg_icmp_ge dX9_layHolds_9 rfl (fun c1 => ?_) (fun c1 => ?_)
  · replace h := h.1 c1
    refine wg_iconst dX9_layHolds_29 qiconst_0 ?_
    refine wg_istore_n (L' := [some (vR 96), some (vI a1), some (vI 0), none]) dX9_layHolds_30 (Nat.le_of_ble_eq_true rfl) rfl ?_
    exact h
  · replace h := h.2 c1
    refine wg_aload_n dX9_layHolds_12 rfl (Nat.succ_ne_zero _) ?_
    refine wg_getRe dX9_layHolds_13 (fl_X9_44 rfl) rfl rfl (sm25 hS) ?_
    refine wg_iload_n dX9_layHolds_16 rfl ?_
    refine wg_aload_n dX9_layHolds_17 rfl (Nat.succ_ne_zero _) ?_
    refine wg_iload_n dX9_layHolds_18 rfl ?_
    refine wg_callV (I' := mX9_strengthOf) (ci := 9) (np := 1) (d' := d) (q := 96) (as := [vI s2]) (st := [vI s2, vR 108]) dX9_layHolds_19 lk_X9_198 ci_X9_strengthOf rfl (Nat.le_of_ble_eq_true rfl) rfl rfl (Nat.le_of_ble_eq_true rfl) rfl (Nat.le_refl _) ⟨Nat.le_refl _, Nat.le_refl _⟩ h (fun v M2 h => ?_)
    obtain ⟨r3, rfl, hS, h⟩ := h
    obtain ⟨o4, h⟩ := h
    refine wg_iast dX9_layHolds_22 rfl o4.1 o4.2 ?_
    generalize hM : stI M2 108 s2.toNat r3 = M5
    replace h := h _ hM.symm
    replace hS : ShM M5 := by rw [← hM]; exact hS
    clear hM
    obtain ⟨o, h⟩ := h
    refine wg_iinc (L' := [some (vR 96), some (vI a1), some (vI (s2 + 1)), none]) dX9_layHolds_23 (Nat.le_of_ble_eq_true rfl) rfl rfl o ?_
    refine wg_goto dX9_layHolds_26 rfl ?_
    exact h
set_option maxRecDepth 100000 in
theorem bX9_layHolds_31 {G : GG} {d : Nat} {M : MM} {Q : Option AV → MM → Prop} (a1 : Int) (s2 : Int) (hS : ShM M) (h :
((ishlv 1 (gI M 96 13)) ≤ s2 →
(Q none M)) ∧
(¬ ((ishlv 1 (gI M 96 13)) ≤ s2) →
(Wp G mX9_layHolds (d + 1) 0 0 43 [some (vR 96), some (vI a1), some (vI s2), some (vI 0)] [] M 0 0 Q))) :
  Wp G mX9_layHolds (d + 1) 0 0 31 [some (vR 96), some (vI a1), some (vI s2), none] [] M 0 0 Q := by
  refine wg_iload_n dX9_layHolds_31 rfl ?_
  refine wg_iconst dX9_layHolds_32 qiconst_1 ?_
  refine wg_aload_n dX9_layHolds_33 rfl (Nat.succ_ne_zero _) ?_
  refine wg_getI dX9_layHolds_34 (fl_X9_84 rfl) rfl rfl ?_
  refine wg_ishl dX9_layHolds_37 ?_
  refine wg_icmp_ge dX9_layHolds_38 rfl (fun c1 => ?_) (fun c1 => ?_)
  · replace h := h.1 c1
    exact wp_vret rfl dX9_layHolds_103 ⟨Nat.le_refl _, Nat.le_refl _⟩ h
  · replace h := h.2 c1
    refine wg_iconst dX9_layHolds_41 qiconst_0 ?_
    refine wg_istore_n (L' := [some (vR 96), some (vI a1), some (vI s2), some (vI 0)]) dX9_layHolds_42 (Nat.le_of_ble_eq_true rfl) rfl ?_
    exact h
set_option maxRecDepth 100000 in
theorem bX9_layHolds_43 {G : GG} {d : Nat} {M : MM} {Q : Option AV → MM → Prop} (a1 : Int) (s2 : Int) (s3 : Int) (hS : ShM M) (h :
((ishlv 1 (gI M 96 5)) ≤ s3 →
(R32 (s2 + 1) ∧
(Wp G mX9_layHolds (d + 1) 0 0 31 [some (vR 96), some (vI a1), some (vI (s2 + 1)), none] [] M 0 0 Q))) ∧
(¬ ((ishlv 1 (gI M 96 5)) ≤ s3) →
(R32 (1024 * s2) ∧
(R32 ((1024 * s2) + s3) ∧
((s2 = 0 →
(((0 : Int) ≤ (1024 * s2) + s3 ∧ ((1024 * s2) + s3 : Int) < 16384) ∧
(∀ M4 : MM, M4 = stI M 107 ((1024 * s2) + s3).toNat 1 →
(R32 (s3 + 1) ∧
(Wp G mX9_layHolds (d + 1) 0 0 43 [some (vR 96), some (vI a1), some (vI s2), some (vI (s3 + 1))] [] M4 0 0 Q))))) ∧
(¬ (s2 = 0) →
(((iandv s3 (ixorv a1 (-1))) ≠ 0 →
(((0 : Int) ≤ (1024 * s2) + s3 ∧ ((1024 * s2) + s3 : Int) < 16384) ∧
(∀ M7 : MM, M7 = stI M 107 ((1024 * s2) + s3).toNat 0 →
(R32 (s3 + 1) ∧
(Wp G mX9_layHolds (d + 1) 0 0 43 [some (vR 96), some (vI a1), some (vI s2), some (vI (s3 + 1))] [] M7 0 0 Q))))) ∧
((iandv s3 (ixorv a1 (-1))) = 0 →
(Ok G mX9_canHold d 0 0 [vR 96, vI s2, vI s3] M (fun v M8 => ∃ r9 : Int, v = some (vI r9) ∧ ShM M8 ∧ 
(((0 : Int) ≤ (1024 * s2) + s3 ∧ ((1024 * s2) + s3 : Int) < 16384) ∧
((if r9 = 0 then (0 : Int) else 1) = 0 ∨ (if r9 = 0 then (0 : Int) else 1) = 1) ∧
(∀ M12 : MM, M12 = stI M8 107 ((1024 * s2) + s3).toNat (if r9 = 0 then (0 : Int) else 1) →
(R32 (s3 + 1) ∧
(Wp G mX9_layHolds (d + 1) 0 0 43 [some (vR 96), some (vI a1), some (vI s2), some (vI (s3 + 1))] [] M12 0 0 Q)))))))))))))) :
  Wp G mX9_layHolds (d + 1) 0 0 43 [some (vR 96), some (vI a1), some (vI s2), some (vI s3)] [] M 0 0 Q := by
  refine wg_iload_n dX9_layHolds_43 rfl ?_
  refine wg_iconst dX9_layHolds_44 qiconst_1 ?_
  refine wg_aload_n dX9_layHolds_45 rfl (Nat.succ_ne_zero _) ?_
  refine wg_getI dX9_layHolds_46 (fl_X9_74 rfl) rfl rfl ?_
  refine wg_ishl dX9_layHolds_49 ?_
  refine wg_icmp_ge dX9_layHolds_50 rfl (fun c1 => ?_) (fun c1 => ?_)
  · replace h := h.1 c1
    obtain ⟨o, h⟩ := h
    refine wg_iinc (L' := [some (vR 96), some (vI a1), some (vI (s2 + 1)), some (vI s3)]) dX9_layHolds_97 (Nat.le_of_ble_eq_true rfl) rfl rfl o ?_
    refine wg_goto dX9_layHolds_100 rfl ?_
    refine wg_weak [true, true, true, false] rfl ?_
    exact h
  · replace h := h.2 c1
    refine wg_aload_n dX9_layHolds_53 rfl (Nat.succ_ne_zero _) ?_
    refine wg_getRe dX9_layHolds_54 (fl_X9_40 rfl) rfl rfl (sm24 hS) ?_
    refine wg_sipush dX9_layHolds_57 qsipush_1024 ?_
    refine wg_iload_n dX9_layHolds_60 rfl ?_
    obtain ⟨o, h⟩ := h
    refine wg_imul dX9_layHolds_61 o ?_
    refine wg_iload_n dX9_layHolds_62 rfl ?_
    obtain ⟨o, h⟩ := h
    refine wg_iadd dX9_layHolds_63 o ?_
    refine wg_iload_n dX9_layHolds_64 rfl ?_
    refine wg_if_eq dX9_layHolds_65 rfl (fun c2 => ?_) (fun c2 => ?_)
    · replace h := h.1 c2
      refine wg_iconst dX9_layHolds_85 qiconst_1 ?_
      refine wg_goto dX9_layHolds_86 rfl ?_
      obtain ⟨o3, h⟩ := h
      refine wg_bast dX9_layHolds_90 rfl o3.1 o3.2 (Or.inr rfl) ?_
      generalize hM : stI M 107 ((1024 * s2) + s3).toNat 1 = M4
      replace h := h _ hM.symm
      replace hS : ShM M4 := by rw [← hM]; exact hS
      clear hM
      obtain ⟨o, h⟩ := h
      refine wg_iinc (L' := [some (vR 96), some (vI a1), some (vI s2), some (vI (s3 + 1))]) dX9_layHolds_91 (Nat.le_of_ble_eq_true rfl) rfl rfl o ?_
      refine wg_goto dX9_layHolds_94 rfl ?_
      exact h
    · replace h := h.2 c2
      refine wg_iload_n dX9_layHolds_68 rfl ?_
      refine wg_iload_n dX9_layHolds_69 rfl ?_
      refine wg_iconst dX9_layHolds_70 qiconst_m1 ?_
      refine wg_ixor dX9_layHolds_71 ?_
      refine wg_iand dX9_layHolds_72 ?_
      refine wg_if_ne dX9_layHolds_73 rfl (fun c5 => ?_) (fun c5 => ?_)
      · replace h := h.1 c5
        refine wg_iconst dX9_layHolds_89 qiconst_0 ?_
        obtain ⟨o6, h⟩ := h
        refine wg_bast dX9_layHolds_90 rfl o6.1 o6.2 (Or.inl rfl) ?_
        generalize hM : stI M 107 ((1024 * s2) + s3).toNat 0 = M7
        replace h := h _ hM.symm
        replace hS : ShM M7 := by rw [← hM]; exact hS
        clear hM
        obtain ⟨o, h⟩ := h
        refine wg_iinc (L' := [some (vR 96), some (vI a1), some (vI s2), some (vI (s3 + 1))]) dX9_layHolds_91 (Nat.le_of_ble_eq_true rfl) rfl rfl o ?_
        refine wg_goto dX9_layHolds_94 rfl ?_
        exact h
      · replace h := h.2 c5
        refine wg_aload_n dX9_layHolds_76 rfl (Nat.succ_ne_zero _) ?_
        refine wg_iload_n dX9_layHolds_77 rfl ?_
        refine wg_iload_n dX9_layHolds_78 rfl ?_
        refine wg_callV (I' := mX9_canHold) (ci := 9) (np := 2) (d' := d) (q := 96) (as := [vI s2, vI s3]) (st := [vI ((1024 * s2) + s3), vR 107]) dX9_layHolds_79 lk_X9_235 ci_X9_canHold rfl (Nat.le_of_ble_eq_true rfl) rfl rfl (Nat.le_of_ble_eq_true rfl) rfl (Nat.le_refl _) ⟨Nat.le_refl _, Nat.le_refl _⟩ h (fun v M8 h => ?_)
        obtain ⟨r9, rfl, hS, h⟩ := h
        have hJ13 : Wp G mX9_layHolds (d + 1) 0 0 90 [some (vR 96), some (vI a1), some (vI s2), some (vI s3)] [vI (if r9 = 0 then (0 : Int) else 1), vI ((1024 * s2) + s3), vR 107] M8 0 0 Q := by
          obtain ⟨o11, h⟩ := h
          obtain ⟨o1, h⟩ := h
          refine wg_bast dX9_layHolds_90 rfl o11.1 o11.2 o1 ?_
          generalize hM : stI M8 107 ((1024 * s2) + s3).toNat (if r9 = 0 then (0 : Int) else 1) = M12
          replace h := h _ hM.symm
          replace hS : ShM M12 := by rw [← hM]; exact hS
          clear hM
          obtain ⟨o, h⟩ := h
          refine wg_iinc (L' := [some (vR 96), some (vI a1), some (vI s2), some (vI (s3 + 1))]) dX9_layHolds_91 (Nat.le_of_ble_eq_true rfl) rfl rfl o ?_
          refine wg_goto dX9_layHolds_94 rfl ?_
          exact h
        refine wg_if_eq dX9_layHolds_82 rfl (fun c10 => ?_) (fun c10 => ?_)
        · rw [show (if r9 = 0 then (0 : Int) else 1) = 0 from if_pos c10] at hJ13
          refine wg_iconst dX9_layHolds_89 qiconst_0 ?_
          exact hJ13
        · rw [show (if r9 = 0 then (0 : Int) else 1) = 1 from if_neg c10] at hJ13
          refine wg_iconst dX9_layHolds_85 qiconst_1 ?_
          refine wg_goto dX9_layHolds_86 rfl ?_
          exact hJ13
set_option maxRecDepth 100000 in
theorem bX9_usedByAll_0 {G : GG} {d : Nat} {M : MM} {Q : Option AV → MM → Prop} (hS : ShM M) (h :
Ok G mX9_unbound d 0 0 [vR 96] M (fun v M1 => ∃ r2 : Int, v = some (vI r2) ∧ ShM M1 ∧ 
(Ok G mX9_thereIn d 0 0 [vR 96, vI 0] M1 (fun v M3 => ∃ r4 : Int, v = some (vI r4) ∧ ShM M3 ∧ 
(Ok G mX9_layHolds d 0 0 [vR 96, vI r4] M3 (fun v M5 => v = none ∧ ShM M5 ∧ 
(Wp G mX9_usedByAll (d + 1) 0 0 25 [some (vR 96), some (vI r2), some (vI r4), some (vI (-4)), some (vI 0), some (vI 0), none, none] [] M5 0 0 Q))))))) :
  Wp G mX9_usedByAll (d + 1) 0 0 0 [some (vR 96), none, none, none, none, none, none, none] [] M 0 0 Q := by
  refine wg_aload_n dX9_usedByAll_0 rfl (Nat.succ_ne_zero _) ?_
  refine wg_callV (I' := mX9_unbound) (ci := 9) (np := 0) (d' := d) (q := 96) (as := []) (st := []) dX9_usedByAll_1 lk_X9_238 ci_X9_unbound rfl (Nat.le_of_ble_eq_true rfl) rfl rfl (Nat.le_of_ble_eq_true rfl) rfl (Nat.le_refl _) ⟨Nat.le_refl _, Nat.le_refl _⟩ h (fun v M1 h => ?_)
  obtain ⟨r2, rfl, hS, h⟩ := h
  refine wg_istore_n (L' := [some (vR 96), some (vI r2), none, none, none, none, none, none]) dX9_usedByAll_4 (Nat.le_of_ble_eq_true rfl) rfl ?_
  refine wg_aload_n dX9_usedByAll_5 rfl (Nat.succ_ne_zero _) ?_
  refine wg_iconst dX9_usedByAll_6 qiconst_0 ?_
  refine wg_callV (I' := mX9_thereIn) (ci := 9) (np := 1) (d' := d) (q := 96) (as := [vI 0]) (st := []) dX9_usedByAll_7 lk_X9_189 ci_X9_thereIn rfl (Nat.le_of_ble_eq_true rfl) rfl rfl (Nat.le_of_ble_eq_true rfl) rfl (Nat.le_refl _) ⟨Nat.le_refl _, Nat.le_refl _⟩ h (fun v M3 h => ?_)
  obtain ⟨r4, rfl, hS, h⟩ := h
  refine wg_istore_n (L' := [some (vR 96), some (vI r2), some (vI r4), none, none, none, none, none]) dX9_usedByAll_10 (Nat.le_of_ble_eq_true rfl) rfl ?_
  refine wg_aload_n dX9_usedByAll_11 rfl (Nat.succ_ne_zero _) ?_
  refine wg_iload_n dX9_usedByAll_12 rfl ?_
  refine wg_callV (I' := mX9_layHolds) (ci := 9) (np := 1) (d' := d) (q := 96) (as := [vI r4]) (st := []) dX9_usedByAll_13 lk_X9_241 ci_X9_layHolds rfl (Nat.le_of_ble_eq_true rfl) rfl rfl (Nat.le_of_ble_eq_true rfl) rfl (Nat.le_refl _) ⟨Nat.le_refl _, Nat.le_refl _⟩ h (fun v M5 h => ?_)
  obtain ⟨rfl, hS, h⟩ := h
  refine wg_bipush dX9_usedByAll_16 qbipush_m4 ?_
  refine wg_istore_n (L' := [some (vR 96), some (vI r2), some (vI r4), some (vI (-4)), none, none, none, none]) dX9_usedByAll_18 (Nat.le_of_ble_eq_true rfl) rfl ?_
  refine wg_iconst dX9_usedByAll_19 qiconst_0 ?_
  refine wg_istore (L' := [some (vR 96), some (vI r2), some (vI r4), some (vI (-4)), some (vI 0), none, none, none]) dX9_usedByAll_20 (Nat.le_of_ble_eq_true rfl) rfl ?_
  refine wg_iconst dX9_usedByAll_22 qiconst_0 ?_
  refine wg_istore (L' := [some (vR 96), some (vI r2), some (vI r4), some (vI (-4)), some (vI 0), some (vI 0), none, none]) dX9_usedByAll_23 (Nat.le_of_ble_eq_true rfl) rfl ?_
  exact h
set_option maxRecDepth 100000 in
theorem bX9_usedByAll_25 {G : GG} {d : Nat} {M : MM} {Q : Option AV → MM → Prop} (s1 : Int) (s2 : Int) (s3 : Int) (s4 : Int) (s5 : Int) (hS : ShM M) (h :
((ishlv 1 (gI M 96 5)) ≤ s5 →
(Q (some (vI s3)) M)) ∧
(¬ ((ishlv 1 (gI M 96 5)) ≤ s5) →
(((iandv s5 (ixorv s2 (-1))) ≠ 0 →
(R32 (s5 + 1) ∧
(Wp G mX9_usedByAll (d + 1) 0 0 25 [some (vR 96), some (vI s1), some (vI s2), some (vI s3), some (vI s4), some (vI (s5 + 1)), none, none] [] M 0 0 Q))) ∧
((iandv s5 (ixorv s2 (-1))) = 0 →
(R32 (1024 * s1) ∧
(R32 ((1024 * s1) + s5) ∧
(((0 : Int) ≤ (1024 * s1) + s5 ∧ ((1024 * s1) + s5 : Int) < 16384) ∧
(((gI M 107 ((1024 * s1) + s5).toNat) = 0 →
(R32 (s5 + 1) ∧
(Wp G mX9_usedByAll (d + 1) 0 0 25 [some (vR 96), some (vI s1), some (vI s2), some (vI s3), some (vI s4), some (vI (s5 + 1)), none, none] [] M 0 0 Q))) ∧
(¬ ((gI M 107 ((1024 * s1) + s5).toNat) = 0) →
(Ok G mX9_costIn d 0 0 [vR 96, vI 0, vI s5] M (fun v M5 => ∃ r6 : Int, v = some (vI r6) ∧ ShM M5 ∧ 
((s3 = (-4) →
(R32 (s5 + 1) ∧
(Wp G mX9_usedByAll (d + 1) 0 0 25 [some (vR 96), some (vI s1), some (vI s2), some (vI s5), some (vI r6), some (vI (s5 + 1)), none, none] [] M5 0 0 Q))) ∧
(¬ (s3 = (-4)) →
((r6 < s4 →
(R32 (s5 + 1) ∧
(Wp G mX9_usedByAll (d + 1) 0 0 25 [some (vR 96), some (vI s1), some (vI s2), some (vI s5), some (vI r6), some (vI (s5 + 1)), none, none] [] M5 0 0 Q))) ∧
(¬ (r6 < s4) →
((r6 ≠ s4 →
(R32 (s5 + 1) ∧
(Wp G mX9_usedByAll (d + 1) 0 0 25 [some (vR 96), some (vI s1), some (vI s2), some (vI s3), some (vI s4), some (vI (s5 + 1)), none, none] [] M5 0 0 Q))) ∧
(r6 = s4 →
(Ok G mX9_bits d 0 0 [vI s5] M5 (fun v M10 => ∃ r11 : Int, v = some (vI r11) ∧ ShM M10 ∧ 
(Ok G mX9_bits d 0 0 [vI s3] M10 (fun v M12 => ∃ r13 : Int, v = some (vI r13) ∧ ShM M12 ∧ 
(R32 (s5 + 1) ∧
(Wp G mX9_usedByAll (d + 1) 0 0 25 [some (vR 96), some (vI s1), some (vI s2), some (vI (if (if r13 ≤ r11 then (0 : Int) else 1) = 0 then (s3 : Int) else s5)), some (vI (if (if r13 ≤ r11 then (0 : Int) else 1) = 0 then (s4 : Int) else r6)), some (vI (s5 + 1)), none, none] [] M12 0 0 Q))))))))))))))))))))))) :
  Wp G mX9_usedByAll (d + 1) 0 0 25 [some (vR 96), some (vI s1), some (vI s2), some (vI s3), some (vI s4), some (vI s5), none, none] [] M 0 0 Q := by
  refine wg_iload dX9_usedByAll_25 rfl ?_
  refine wg_iconst dX9_usedByAll_27 qiconst_1 ?_
  refine wg_aload_n dX9_usedByAll_28 rfl (Nat.succ_ne_zero _) ?_
  refine wg_getI dX9_usedByAll_29 (fl_X9_74 rfl) rfl rfl ?_
  refine wg_ishl dX9_usedByAll_32 ?_
  refine wg_icmp_ge dX9_usedByAll_33 rfl (fun c1 => ?_) (fun c1 => ?_)
  · replace h := h.1 c1
    refine wg_iload_n dX9_usedByAll_141 rfl ?_
    exact wp_iret rfl dX9_usedByAll_142 ⟨Nat.le_refl _, Nat.le_refl _⟩ h
  · replace h := h.2 c1
    refine wg_iload dX9_usedByAll_36 rfl ?_
    refine wg_iload_n dX9_usedByAll_38 rfl ?_
    refine wg_iconst dX9_usedByAll_39 qiconst_m1 ?_
    refine wg_ixor dX9_usedByAll_40 ?_
    refine wg_iand dX9_usedByAll_41 ?_
    refine wg_if_ne dX9_usedByAll_42 rfl (fun c2 => ?_) (fun c2 => ?_)
    · replace h := h.1 c2
      obtain ⟨o, h⟩ := h
      refine wg_iinc (L' := [some (vR 96), some (vI s1), some (vI s2), some (vI s3), some (vI s4), some (vI (s5 + 1)), none, none]) dX9_usedByAll_135 (Nat.le_of_ble_eq_true rfl) rfl rfl o ?_
      refine wg_goto dX9_usedByAll_138 rfl ?_
      exact h
    · replace h := h.2 c2
      refine wg_aload_n dX9_usedByAll_45 rfl (Nat.succ_ne_zero _) ?_
      refine wg_getRe dX9_usedByAll_46 (fl_X9_40 rfl) rfl rfl (sm24 hS) ?_
      refine wg_sipush dX9_usedByAll_49 qsipush_1024 ?_
      refine wg_iload_n dX9_usedByAll_52 rfl ?_
      obtain ⟨o, h⟩ := h
      refine wg_imul dX9_usedByAll_53 o ?_
      refine wg_iload dX9_usedByAll_54 rfl ?_
      obtain ⟨o, h⟩ := h
      refine wg_iadd dX9_usedByAll_56 o ?_
      obtain ⟨o3, h⟩ := h
      refine wg_bald dX9_usedByAll_57 rfl o3.1 o3.2 ?_
      refine wg_if_eq dX9_usedByAll_58 rfl (fun c4 => ?_) (fun c4 => ?_)
      · replace h := h.1 c4
        obtain ⟨o, h⟩ := h
        refine wg_iinc (L' := [some (vR 96), some (vI s1), some (vI s2), some (vI s3), some (vI s4), some (vI (s5 + 1)), none, none]) dX9_usedByAll_135 (Nat.le_of_ble_eq_true rfl) rfl rfl o ?_
        refine wg_goto dX9_usedByAll_138 rfl ?_
        exact h
      · replace h := h.2 c4
        refine wg_aload_n dX9_usedByAll_61 rfl (Nat.succ_ne_zero _) ?_
        refine wg_iconst dX9_usedByAll_62 qiconst_0 ?_
        refine wg_iload dX9_usedByAll_63 rfl ?_
        refine wg_callV (I' := mX9_costIn) (ci := 9) (np := 2) (d' := d) (q := 96) (as := [vI 0, vI s5]) (st := []) dX9_usedByAll_65 lk_X9_225 ci_X9_costIn rfl (Nat.le_of_ble_eq_true rfl) rfl rfl (Nat.le_of_ble_eq_true rfl) rfl (Nat.le_refl _) ⟨Nat.le_refl _, Nat.le_refl _⟩ h (fun v M5 h => ?_)
        obtain ⟨r6, rfl, hS, h⟩ := h
        refine wg_istore (L' := [some (vR 96), some (vI s1), some (vI s2), some (vI s3), some (vI s4), some (vI s5), some (vI r6), none]) dX9_usedByAll_68 (Nat.le_of_ble_eq_true rfl) rfl ?_
        refine wg_iload_n dX9_usedByAll_70 rfl ?_
        refine wg_bipush dX9_usedByAll_71 qbipush_m4 ?_
        refine wg_icmp_eq dX9_usedByAll_73 rfl (fun c7 => ?_) (fun c7 => ?_)
        · replace h := h.1 c7
          refine wg_iconst dX9_usedByAll_102 qiconst_1 ?_
          refine wg_goto dX9_usedByAll_103 rfl ?_
          refine wg_istore (L' := [some (vR 96), some (vI s1), some (vI s2), some (vI s3), some (vI s4), some (vI s5), some (vI r6), some (vI 1)]) dX9_usedByAll_107 (Nat.le_of_ble_eq_true rfl) rfl ?_
          refine wg_iload dX9_usedByAll_109 rfl ?_
          refine wg_if_eq dX9_usedByAll_111 rfl (fun c => absurd c (by decide)) (fun _ => ?_)
          refine wg_iload dX9_usedByAll_114 rfl ?_
          refine wg_goto dX9_usedByAll_116 rfl ?_
          refine wg_istore_n (L' := [some (vR 96), some (vI s1), some (vI s2), some (vI s5), some (vI s4), some (vI s5), some (vI r6), some (vI 1)]) dX9_usedByAll_120 (Nat.le_of_ble_eq_true rfl) rfl ?_
          refine wg_iload dX9_usedByAll_121 rfl ?_
          refine wg_if_eq dX9_usedByAll_123 rfl (fun c => absurd c (by decide)) (fun _ => ?_)
          refine wg_iload dX9_usedByAll_126 rfl ?_
          refine wg_goto dX9_usedByAll_128 rfl ?_
          refine wg_istore (L' := [some (vR 96), some (vI s1), some (vI s2), some (vI s5), some (vI r6), some (vI s5), some (vI r6), some (vI 1)]) dX9_usedByAll_133 (Nat.le_of_ble_eq_true rfl) rfl ?_
          obtain ⟨o, h⟩ := h
          refine wg_iinc (L' := [some (vR 96), some (vI s1), some (vI s2), some (vI s5), some (vI r6), some (vI (s5 + 1)), some (vI r6), some (vI 1)]) dX9_usedByAll_135 (Nat.le_of_ble_eq_true rfl) rfl rfl o ?_
          refine wg_goto dX9_usedByAll_138 rfl ?_
          refine wg_weak [true, true, true, true, true, true, false, false] rfl ?_
          exact h
        · replace h := h.2 c7
          refine wg_iload dX9_usedByAll_76 rfl ?_
          refine wg_iload dX9_usedByAll_78 rfl ?_
          refine wg_icmp_lt dX9_usedByAll_80 rfl (fun c8 => ?_) (fun c8 => ?_)
          · replace h := h.1 c8
            refine wg_iconst dX9_usedByAll_102 qiconst_1 ?_
            refine wg_goto dX9_usedByAll_103 rfl ?_
            refine wg_istore (L' := [some (vR 96), some (vI s1), some (vI s2), some (vI s3), some (vI s4), some (vI s5), some (vI r6), some (vI 1)]) dX9_usedByAll_107 (Nat.le_of_ble_eq_true rfl) rfl ?_
            refine wg_iload dX9_usedByAll_109 rfl ?_
            refine wg_if_eq dX9_usedByAll_111 rfl (fun c => absurd c (by decide)) (fun _ => ?_)
            refine wg_iload dX9_usedByAll_114 rfl ?_
            refine wg_goto dX9_usedByAll_116 rfl ?_
            refine wg_istore_n (L' := [some (vR 96), some (vI s1), some (vI s2), some (vI s5), some (vI s4), some (vI s5), some (vI r6), some (vI 1)]) dX9_usedByAll_120 (Nat.le_of_ble_eq_true rfl) rfl ?_
            refine wg_iload dX9_usedByAll_121 rfl ?_
            refine wg_if_eq dX9_usedByAll_123 rfl (fun c => absurd c (by decide)) (fun _ => ?_)
            refine wg_iload dX9_usedByAll_126 rfl ?_
            refine wg_goto dX9_usedByAll_128 rfl ?_
            refine wg_istore (L' := [some (vR 96), some (vI s1), some (vI s2), some (vI s5), some (vI r6), some (vI s5), some (vI r6), some (vI 1)]) dX9_usedByAll_133 (Nat.le_of_ble_eq_true rfl) rfl ?_
            obtain ⟨o, h⟩ := h
            refine wg_iinc (L' := [some (vR 96), some (vI s1), some (vI s2), some (vI s5), some (vI r6), some (vI (s5 + 1)), some (vI r6), some (vI 1)]) dX9_usedByAll_135 (Nat.le_of_ble_eq_true rfl) rfl rfl o ?_
            refine wg_goto dX9_usedByAll_138 rfl ?_
            refine wg_weak [true, true, true, true, true, true, false, false] rfl ?_
            exact h
          · replace h := h.2 c8
            refine wg_iload dX9_usedByAll_83 rfl ?_
            refine wg_iload dX9_usedByAll_85 rfl ?_
            refine wg_icmp_ne dX9_usedByAll_87 rfl (fun c9 => ?_) (fun c9 => ?_)
            · replace h := h.1 c9
              refine wg_iconst dX9_usedByAll_106 qiconst_0 ?_
              refine wg_istore (L' := [some (vR 96), some (vI s1), some (vI s2), some (vI s3), some (vI s4), some (vI s5), some (vI r6), some (vI 0)]) dX9_usedByAll_107 (Nat.le_of_ble_eq_true rfl) rfl ?_
              refine wg_iload dX9_usedByAll_109 rfl ?_
              refine wg_if_eq dX9_usedByAll_111 rfl (fun _ => ?_) (fun c => absurd c (by decide))
              refine wg_iload_n dX9_usedByAll_119 rfl ?_
              refine wg_istore_n (L' := [some (vR 96), some (vI s1), some (vI s2), some (vI s3), some (vI s4), some (vI s5), some (vI r6), some (vI 0)]) dX9_usedByAll_120 (Nat.le_of_ble_eq_true rfl) rfl ?_
              refine wg_iload dX9_usedByAll_121 rfl ?_
              refine wg_if_eq dX9_usedByAll_123 rfl (fun _ => ?_) (fun c => absurd c (by decide))
              refine wg_iload dX9_usedByAll_131 rfl ?_
              refine wg_istore (L' := [some (vR 96), some (vI s1), some (vI s2), some (vI s3), some (vI s4), some (vI s5), some (vI r6), some (vI 0)]) dX9_usedByAll_133 (Nat.le_of_ble_eq_true rfl) rfl ?_
              obtain ⟨o, h⟩ := h
              refine wg_iinc (L' := [some (vR 96), some (vI s1), some (vI s2), some (vI s3), some (vI s4), some (vI (s5 + 1)), some (vI r6), some (vI 0)]) dX9_usedByAll_135 (Nat.le_of_ble_eq_true rfl) rfl rfl o ?_
              refine wg_goto dX9_usedByAll_138 rfl ?_
              refine wg_weak [true, true, true, true, true, true, false, false] rfl ?_
              exact h
            · replace h := h.2 c9
              refine wg_iload dX9_usedByAll_90 rfl ?_
              refine wg_callS (I' := mX9_bits) (np := 1) (d' := d) (as := [vI s5]) (st := []) dX9_usedByAll_92 lk_X9_214 ci_X9_bits rfl rfl (Nat.le_of_ble_eq_true rfl) (Nat.le_refl _) ⟨Nat.le_refl _, Nat.le_refl _⟩ h (fun v M10 h => ?_)
              obtain ⟨r11, rfl, hS, h⟩ := h
              refine wg_iload_n dX9_usedByAll_95 rfl ?_
              refine wg_callS (I' := mX9_bits) (np := 1) (d' := d) (as := [vI s3]) (st := [vI r11]) dX9_usedByAll_96 lk_X9_214 ci_X9_bits rfl rfl (Nat.le_of_ble_eq_true rfl) (Nat.le_refl _) ⟨Nat.le_refl _, Nat.le_refl _⟩ h (fun v M12 h => ?_)
              obtain ⟨r13, rfl, hS, h⟩ := h
              have hJ19 : Wp G mX9_usedByAll (d + 1) 0 0 107 [some (vR 96), some (vI s1), some (vI s2), some (vI s3), some (vI s4), some (vI s5), some (vI r6), none] [vI (if r13 ≤ r11 then (0 : Int) else 1)] M12 0 0 Q := by
                refine wg_istore (L' := [some (vR 96), some (vI s1), some (vI s2), some (vI s3), some (vI s4), some (vI s5), some (vI r6), some (vI (if r13 ≤ r11 then (0 : Int) else 1))]) dX9_usedByAll_107 (Nat.le_of_ble_eq_true rfl) rfl ?_
                refine wg_iload dX9_usedByAll_109 rfl ?_
                have hJ18 : Wp G mX9_usedByAll (d + 1) 0 0 120 [some (vR 96), some (vI s1), some (vI s2), some (vI s3), some (vI s4), some (vI s5), some (vI r6), some (vI (if r13 ≤ r11 then (0 : Int) else 1))] [vI (if (if r13 ≤ r11 then (0 : Int) else 1) = 0 then (s3 : Int) else s5)] M12 0 0 Q := by
                  refine wg_istore_n (L' := [some (vR 96), some (vI s1), some (vI s2), some (vI (if (if r13 ≤ r11 then (0 : Int) else 1) = 0 then (s3 : Int) else s5)), some (vI s4), some (vI s5), some (vI r6), some (vI (if r13 ≤ r11 then (0 : Int) else 1))]) dX9_usedByAll_120 (Nat.le_of_ble_eq_true rfl) rfl ?_
                  refine wg_iload dX9_usedByAll_121 rfl ?_
                  have hJ17 : Wp G mX9_usedByAll (d + 1) 0 0 133 [some (vR 96), some (vI s1), some (vI s2), some (vI (if (if r13 ≤ r11 then (0 : Int) else 1) = 0 then (s3 : Int) else s5)), some (vI s4), some (vI s5), some (vI r6), some (vI (if r13 ≤ r11 then (0 : Int) else 1))] [vI (if (if r13 ≤ r11 then (0 : Int) else 1) = 0 then (s4 : Int) else r6)] M12 0 0 Q := by
                    refine wg_istore (L' := [some (vR 96), some (vI s1), some (vI s2), some (vI (if (if r13 ≤ r11 then (0 : Int) else 1) = 0 then (s3 : Int) else s5)), some (vI (if (if r13 ≤ r11 then (0 : Int) else 1) = 0 then (s4 : Int) else r6)), some (vI s5), some (vI r6), some (vI (if r13 ≤ r11 then (0 : Int) else 1))]) dX9_usedByAll_133 (Nat.le_of_ble_eq_true rfl) rfl ?_
                    obtain ⟨o, h⟩ := h
                    refine wg_iinc (L' := [some (vR 96), some (vI s1), some (vI s2), some (vI (if (if r13 ≤ r11 then (0 : Int) else 1) = 0 then (s3 : Int) else s5)), some (vI (if (if r13 ≤ r11 then (0 : Int) else 1) = 0 then (s4 : Int) else r6)), some (vI (s5 + 1)), some (vI r6), some (vI (if r13 ≤ r11 then (0 : Int) else 1))]) dX9_usedByAll_135 (Nat.le_of_ble_eq_true rfl) rfl rfl o ?_
                    refine wg_goto dX9_usedByAll_138 rfl ?_
                    refine wg_weak [true, true, true, true, true, true, false, false] rfl ?_
                    exact h
                  refine wg_if_eq dX9_usedByAll_123 rfl (fun c16 => ?_) (fun c16 => ?_)
                  · rw [show (if (if r13 ≤ r11 then (0 : Int) else 1) = 0 then (s4 : Int) else r6) = s4 from if_pos c16] at hJ17
                    refine wg_iload dX9_usedByAll_131 rfl ?_
                    exact hJ17
                  · rw [show (if (if r13 ≤ r11 then (0 : Int) else 1) = 0 then (s4 : Int) else r6) = r6 from if_neg c16] at hJ17
                    refine wg_iload dX9_usedByAll_126 rfl ?_
                    refine wg_goto dX9_usedByAll_128 rfl ?_
                    exact hJ17
                refine wg_if_eq dX9_usedByAll_111 rfl (fun c15 => ?_) (fun c15 => ?_)
                · rw [show (if (if r13 ≤ r11 then (0 : Int) else 1) = 0 then (s3 : Int) else s5) = s3 from if_pos c15] at hJ18
                  refine wg_iload_n dX9_usedByAll_119 rfl ?_
                  exact hJ18
                · rw [show (if (if r13 ≤ r11 then (0 : Int) else 1) = 0 then (s3 : Int) else s5) = s5 from if_neg c15] at hJ18
                  refine wg_iload dX9_usedByAll_114 rfl ?_
                  refine wg_goto dX9_usedByAll_116 rfl ?_
                  exact hJ18
              refine wg_icmp_ge dX9_usedByAll_99 rfl (fun c14 => ?_) (fun c14 => ?_)
              · rw [show (if r13 ≤ r11 then (0 : Int) else 1) = 0 from if_pos c14] at hJ19
                refine wg_iconst dX9_usedByAll_106 qiconst_0 ?_
                exact hJ19
              · rw [show (if r13 ≤ r11 then (0 : Int) else 1) = 1 from if_neg c14] at hJ19
                refine wg_iconst dX9_usedByAll_102 qiconst_1 ?_
                refine wg_goto dX9_usedByAll_103 rfl ?_
                exact hJ19
set_option maxRecDepth 100000 in
theorem bX9_ribbonOf_0 {G : GG} {d : Nat} {M : MM} {Q : Option AV → MM → Prop} (a1 : Int) (a2 : Int) (hS : ShM M) (h :
Ok G mX9_unbound d 0 0 [vR 96] M (fun v M1 => ∃ r2 : Int, v = some (vI r2) ∧ ShM M1 ∧ 
(Wp G mX9_ribbonOf (d + 1) 0 0 14 [some (vR 96), some (vI a1), none, some (vI r2), some (vI a2), some (vI 0), some (vI 0)] [] M1 0 0 Q))) :
  Wp G mX9_ribbonOf (d + 1) 0 0 0 [some (vR 96), some (vI a1), some (vI a2), none, none, none, none] [] M 0 0 Q := by
  refine wg_aload_n dX9_ribbonOf_0 rfl (Nat.succ_ne_zero _) ?_
  refine wg_callV (I' := mX9_unbound) (ci := 9) (np := 0) (d' := d) (q := 96) (as := []) (st := []) dX9_ribbonOf_1 lk_X9_238 ci_X9_unbound rfl (Nat.le_of_ble_eq_true rfl) rfl rfl (Nat.le_of_ble_eq_true rfl) rfl (Nat.le_refl _) ⟨Nat.le_refl _, Nat.le_refl _⟩ h (fun v M1 h => ?_)
  obtain ⟨r2, rfl, hS, h⟩ := h
  refine wg_istore_n (L' := [some (vR 96), some (vI a1), some (vI a2), some (vI r2), none, none, none]) dX9_ribbonOf_4 (Nat.le_of_ble_eq_true rfl) rfl ?_
  refine wg_iload_n dX9_ribbonOf_5 rfl ?_
  refine wg_istore (L' := [some (vR 96), some (vI a1), some (vI a2), some (vI r2), some (vI a2), none, none]) dX9_ribbonOf_6 (Nat.le_of_ble_eq_true rfl) rfl ?_
  refine wg_iconst dX9_ribbonOf_8 qiconst_0 ?_
  refine wg_istore (L' := [some (vR 96), some (vI a1), some (vI a2), some (vI r2), some (vI a2), some (vI 0), none]) dX9_ribbonOf_9 (Nat.le_of_ble_eq_true rfl) rfl ?_
  refine wg_iconst dX9_ribbonOf_11 qiconst_0 ?_
  refine wg_istore (L' := [some (vR 96), some (vI a1), some (vI a2), some (vI r2), some (vI a2), some (vI 0), some (vI 0)]) dX9_ribbonOf_12 (Nat.le_of_ble_eq_true rfl) rfl ?_
  refine wg_weak [true, true, false, true, true, true, true] rfl ?_
  exact h
set_option maxRecDepth 100000 in
theorem bX9_ribbonOf_14 {G : GG} {d : Nat} {M : MM} {Q : Option AV → MM → Prop} (a1 : Int) (s3 : Int) (s4 : Int) (s5 : Int) (s6 : Int) (hS : ShM M) (h :
(a1 < s6 →
(Q (some (vI s5)) M)) ∧
(¬ (a1 < s6) →
(Ok G mX9_has d 0 0 [vI s3, vI s6] M (fun v M2 => ∃ r3 : Int, v = some (vI r3) ∧ ShM M2 ∧ 
((r3 = 0 →
(R32 (s6 + 1) ∧
(Wp G mX9_ribbonOf (d + 1) 0 0 14 [some (vR 96), some (vI a1), none, some (vI s3), some (vI s4), some (vI s5), some (vI (s6 + 1))] [] M2 0 0 Q))) ∧
(¬ (r3 = 0) →
(Wp G mX9_ribbonOf (d + 1) 0 0 41 [some (vR 96), some (vI a1), none, some (vI (iandv s3 (ixorv (ishlv 1 s6) (-1)))), some (vI s4), some (vI 1), some (vI s6)] [] M2 0 0 Q))))))) :
  Wp G mX9_ribbonOf (d + 1) 0 0 14 [some (vR 96), some (vI a1), none, some (vI s3), some (vI s4), some (vI s5), some (vI s6)] [] M 0 0 Q := by
  refine wg_iload dX9_ribbonOf_14 rfl ?_
  refine wg_iload_n dX9_ribbonOf_16 rfl ?_
  refine wg_icmp_gt dX9_ribbonOf_17 rfl (fun c1 => ?_) (fun c1 => ?_)
  · replace h := h.1 c1
    refine wg_iload dX9_ribbonOf_110 rfl ?_
    exact wp_iret rfl dX9_ribbonOf_112 ⟨Nat.le_refl _, Nat.le_refl _⟩ h
  · replace h := h.2 c1
    refine wg_iload_n dX9_ribbonOf_20 rfl ?_
    refine wg_iload dX9_ribbonOf_21 rfl ?_
    refine wg_callS (I' := mX9_has) (np := 2) (d' := d) (as := [vI s3, vI s6]) (st := []) dX9_ribbonOf_23 lk_X9_166 ci_X9_has rfl rfl (Nat.le_of_ble_eq_true rfl) (Nat.le_refl _) ⟨Nat.le_refl _, Nat.le_refl _⟩ h (fun v M2 h => ?_)
    obtain ⟨r3, rfl, hS, h⟩ := h
    refine wg_if_eq dX9_ribbonOf_26 rfl (fun c4 => ?_) (fun c4 => ?_)
    · replace h := h.1 c4
      obtain ⟨o, h⟩ := h
      refine wg_iinc (L' := [some (vR 96), some (vI a1), none, some (vI s3), some (vI s4), some (vI s5), some (vI (s6 + 1))]) dX9_ribbonOf_104 (Nat.le_of_ble_eq_true rfl) rfl rfl o ?_
      refine wg_goto dX9_ribbonOf_107 rfl ?_
      exact h
    · replace h := h.2 c4
      refine wg_iload_n dX9_ribbonOf_29 rfl ?_
      refine wg_iconst dX9_ribbonOf_30 qiconst_1 ?_
      refine wg_iload dX9_ribbonOf_31 rfl ?_
      refine wg_ishl dX9_ribbonOf_33 ?_
      refine wg_iconst dX9_ribbonOf_34 qiconst_m1 ?_
      refine wg_ixor dX9_ribbonOf_35 ?_
      refine wg_iand dX9_ribbonOf_36 ?_
      refine wg_istore_n (L' := [some (vR 96), some (vI a1), none, some (vI (iandv s3 (ixorv (ishlv 1 s6) (-1)))), some (vI s4), some (vI s5), some (vI s6)]) dX9_ribbonOf_37 (Nat.le_of_ble_eq_true rfl) rfl ?_
      refine wg_iconst dX9_ribbonOf_38 qiconst_1 ?_
      refine wg_istore (L' := [some (vR 96), some (vI a1), none, some (vI (iandv s3 (ixorv (ishlv 1 s6) (-1)))), some (vI s4), some (vI 1), some (vI s6)]) dX9_ribbonOf_39 (Nat.le_of_ble_eq_true rfl) rfl ?_
      exact h
set_option maxRecDepth 100000 in
theorem bX9_ribbonOf_41 {G : GG} {d : Nat} {M : MM} {Q : Option AV → MM → Prop} (a1 : Int) (s3 : Int) (s4 : Int) (s5 : Int) (s6 : Int) (hS : ShM M) (h :
((iandv s5 (ixorv s4 (-1))) ≠ 0 →
(R32 (s5 + 1) ∧
(Wp G mX9_ribbonOf (d + 1) 0 0 41 [some (vR 96), some (vI a1), none, some (vI s3), some (vI s4), some (vI (s5 + 1)), some (vI s6)] [] M 0 0 Q))) ∧
((iandv s5 (ixorv s4 (-1))) = 0 →
(((0 : Int) ≤ s5 ∧ (s5 : Int) < 1024) ∧
(((0 : Int) ≤ s6 ∧ (s6 : Int) < 4) ∧
(((gI M 108 s5.toNat) < (gI M 104 s6.toNat) →
(R32 (s5 + 1) ∧
(Wp G mX9_ribbonOf (d + 1) 0 0 41 [some (vR 96), some (vI a1), none, some (vI s3), some (vI s4), some (vI (s5 + 1)), some (vI s6)] [] M 0 0 Q))) ∧
(¬ ((gI M 108 s5.toNat) < (gI M 104 s6.toNat)) →
(R32 (1024 * s3) ∧
(R32 ((1024 * s3) + (iandv s4 (ixorv s5 (-1)))) ∧
(((0 : Int) ≤ (1024 * s3) + (iandv s4 (ixorv s5 (-1))) ∧ ((1024 * s3) + (iandv s4 (ixorv s5 (-1))) : Int) < 16384) ∧
(((gI M 107 ((1024 * s3) + (iandv s4 (ixorv s5 (-1)))).toNat) ≠ 0 →
(R32 (s6 + 1) ∧
(Wp G mX9_ribbonOf (d + 1) 0 0 14 [some (vR 96), some (vI a1), none, some (vI s3), some (vI (iandv s4 (ixorv s5 (-1)))), some (vI s5), some (vI (s6 + 1))] [] M 0 0 Q))) ∧
((gI M 107 ((1024 * s3) + (iandv s4 (ixorv s5 (-1)))).toNat) = 0 →
(R32 (s5 + 1) ∧
(Wp G mX9_ribbonOf (d + 1) 0 0 41 [some (vR 96), some (vI a1), none, some (vI s3), some (vI s4), some (vI (s5 + 1)), some (vI s6)] [] M 0 0 Q))))))))))))) :
  Wp G mX9_ribbonOf (d + 1) 0 0 41 [some (vR 96), some (vI a1), none, some (vI s3), some (vI s4), some (vI s5), some (vI s6)] [] M 0 0 Q := by
  refine wg_iload dX9_ribbonOf_41 rfl ?_
  refine wg_iload dX9_ribbonOf_43 rfl ?_
  refine wg_iconst dX9_ribbonOf_45 qiconst_m1 ?_
  refine wg_ixor dX9_ribbonOf_46 ?_
  refine wg_iand dX9_ribbonOf_47 ?_
  refine wg_if_ne dX9_ribbonOf_48 rfl (fun c1 => ?_) (fun c1 => ?_)
  · replace h := h.1 c1
    obtain ⟨o, h⟩ := h
    refine wg_iinc (L' := [some (vR 96), some (vI a1), none, some (vI s3), some (vI s4), some (vI (s5 + 1)), some (vI s6)]) dX9_ribbonOf_89 (Nat.le_of_ble_eq_true rfl) rfl rfl o ?_
    refine wg_goto dX9_ribbonOf_92 rfl ?_
    exact h
  · replace h := h.2 c1
    refine wg_aload_n dX9_ribbonOf_51 rfl (Nat.succ_ne_zero _) ?_
    refine wg_getRe dX9_ribbonOf_52 (fl_X9_44 rfl) rfl rfl (sm25 hS) ?_
    refine wg_iload dX9_ribbonOf_55 rfl ?_
    obtain ⟨o2, h⟩ := h
    refine wg_iald dX9_ribbonOf_57 rfl o2.1 o2.2 ?_
    refine wg_aload_n dX9_ribbonOf_58 rfl (Nat.succ_ne_zero _) ?_
    refine wg_getRe dX9_ribbonOf_59 (fl_X9_31 rfl) rfl rfl (sm14 hS) ?_
    refine wg_iload dX9_ribbonOf_62 rfl ?_
    obtain ⟨o3, h⟩ := h
    refine wg_iald dX9_ribbonOf_64 rfl o3.1 o3.2 ?_
    refine wg_icmp_lt dX9_ribbonOf_65 rfl (fun c4 => ?_) (fun c4 => ?_)
    · replace h := h.1 c4
      obtain ⟨o, h⟩ := h
      refine wg_iinc (L' := [some (vR 96), some (vI a1), none, some (vI s3), some (vI s4), some (vI (s5 + 1)), some (vI s6)]) dX9_ribbonOf_89 (Nat.le_of_ble_eq_true rfl) rfl rfl o ?_
      refine wg_goto dX9_ribbonOf_92 rfl ?_
      exact h
    · replace h := h.2 c4
      refine wg_aload_n dX9_ribbonOf_68 rfl (Nat.succ_ne_zero _) ?_
      refine wg_getRe dX9_ribbonOf_69 (fl_X9_40 rfl) rfl rfl (sm24 hS) ?_
      refine wg_sipush dX9_ribbonOf_72 qsipush_1024 ?_
      refine wg_iload_n dX9_ribbonOf_75 rfl ?_
      obtain ⟨o, h⟩ := h
      refine wg_imul dX9_ribbonOf_76 o ?_
      refine wg_iload dX9_ribbonOf_77 rfl ?_
      refine wg_iload dX9_ribbonOf_79 rfl ?_
      refine wg_iconst dX9_ribbonOf_81 qiconst_m1 ?_
      refine wg_ixor dX9_ribbonOf_82 ?_
      refine wg_iand dX9_ribbonOf_83 ?_
      obtain ⟨o, h⟩ := h
      refine wg_iadd dX9_ribbonOf_84 o ?_
      obtain ⟨o5, h⟩ := h
      refine wg_bald dX9_ribbonOf_85 rfl o5.1 o5.2 ?_
      refine wg_if_ne dX9_ribbonOf_86 rfl (fun c6 => ?_) (fun c6 => ?_)
      · replace h := h.1 c6
        refine wg_iload dX9_ribbonOf_95 rfl ?_
        refine wg_iload dX9_ribbonOf_97 rfl ?_
        refine wg_iconst dX9_ribbonOf_99 qiconst_m1 ?_
        refine wg_ixor dX9_ribbonOf_100 ?_
        refine wg_iand dX9_ribbonOf_101 ?_
        refine wg_istore (L' := [some (vR 96), some (vI a1), none, some (vI s3), some (vI (iandv s4 (ixorv s5 (-1)))), some (vI s5), some (vI s6)]) dX9_ribbonOf_102 (Nat.le_of_ble_eq_true rfl) rfl ?_
        obtain ⟨o, h⟩ := h
        refine wg_iinc (L' := [some (vR 96), some (vI a1), none, some (vI s3), some (vI (iandv s4 (ixorv s5 (-1)))), some (vI s5), some (vI (s6 + 1))]) dX9_ribbonOf_104 (Nat.le_of_ble_eq_true rfl) rfl rfl o ?_
        refine wg_goto dX9_ribbonOf_107 rfl ?_
        exact h
      · replace h := h.2 c6
        obtain ⟨o, h⟩ := h
        refine wg_iinc (L' := [some (vR 96), some (vI a1), none, some (vI s3), some (vI s4), some (vI (s5 + 1)), some (vI s6)]) dX9_ribbonOf_89 (Nat.le_of_ble_eq_true rfl) rfl rfl o ?_
        refine wg_goto dX9_ribbonOf_92 rfl ?_
        exact h
set_option maxRecDepth 100000 in
theorem bX9_all_0 {G : GG} {d : Nat} {M : MM} {Q : Option AV → MM → Prop} (a1 : Int) (hS : ShM M) (h :
R32 ((gI M 96 13) - 1) ∧
(Ok G mX9_in d 0 0 [vL a1, vL (-2), vL ((gI M 96 13) - 1)] M (fun v M1 => ∃ r2 : Int, v = some (vI r2) ∧ ShM M1 ∧ 
((r2 ≠ 0 →
(Ok G mX9_usedByAll d 0 0 [vR 96] M1 (fun v M4 => ∃ r5 : Int, v = some (vI r5) ∧ ShM M4 ∧ 
((r5 ≠ (-4) →
((a1 ≠ (-1) →
((a1 ≠ (-2) →
(Ok G mX9_unbound d 0 0 [vR 96] M4 (fun v M9 => ∃ r10 : Int, v = some (vI r10) ∧ ShM M9 ∧ 
(Ok G mX9_has d 0 0 [vI r10, vI a1] M9 (fun v M11 => ∃ r12 : Int, v = some (vI r12) ∧ ShM M11 ∧ 
((r12 = 0 →
(Q (some (vI 0)) M11)) ∧
(¬ (r12 = 0) →
(Ok G mX9_ribbonOf d 0 0 [vR 96, vI a1, vI r5] M11 (fun v M14 => ∃ r15 : Int, v = some (vI r15) ∧ ShM M14 ∧ 
(Q (some (vI r15)) M14)))))))))) ∧
(a1 = (-2) →
(Ok G mX9_costIn d 0 0 [vR 96, vI 0, vI r5] M4 (fun v M16 => ∃ r17 : Int, v = some (vI r17) ∧ ShM M16 ∧ 
(Q (some (vI r17)) M16)))))) ∧
(a1 = (-1) →
(Q (some (vI r5)) M4)))) ∧
(r5 = (-4) →
(Q (some (vI (-4))) M4)))))) ∧
(r2 = 0 →
(Q (some (vI (-1))) M1)))))) :
  Wp G mX9_all (d + 1) 0 0 0 [some (vR 96), some (vI a1), none] [] M 0 0 Q := by
  refine wg_iload_n dX9_all_0 rfl ?_
  refine wg_i2l dX9_all_1 ?_
  refine wg_ldc2 dX9_all_2 kc_X9_244 ⟨by decide, by decide⟩ ?_
  refine wg_aload_n dX9_all_5 rfl (Nat.succ_ne_zero _) ?_
  refine wg_getI dX9_all_6 (fl_X9_84 rfl) rfl rfl ?_
  refine wg_iconst dX9_all_9 qiconst_1 ?_
  obtain ⟨o, h⟩ := h
  refine wg_isub dX9_all_10 o ?_
  refine wg_i2l dX9_all_11 ?_
  refine wg_callS (I' := mX9_in) (np := 3) (d' := d) (as := [vL a1, vL (-2), vL ((gI M 96 13) - 1)]) (st := []) dX9_all_12 lk_X9_100 ci_X9_in rfl rfl (Nat.le_of_ble_eq_true rfl) (Nat.le_refl _) ⟨Nat.le_refl _, Nat.le_refl _⟩ h (fun v M1 h => ?_)
  obtain ⟨r2, rfl, hS, h⟩ := h
  refine wg_if_ne dX9_all_15 rfl (fun c3 => ?_) (fun c3 => ?_)
  · replace h := h.1 c3
    refine wg_aload_n dX9_all_20 rfl (Nat.succ_ne_zero _) ?_
    refine wg_callV (I' := mX9_usedByAll) (ci := 9) (np := 0) (d' := d) (q := 96) (as := []) (st := []) dX9_all_21 lk_X9_246 ci_X9_usedByAll rfl (Nat.le_of_ble_eq_true rfl) rfl rfl (Nat.le_of_ble_eq_true rfl) rfl (Nat.le_refl _) ⟨Nat.le_refl _, Nat.le_refl _⟩ h (fun v M4 h => ?_)
    obtain ⟨r5, rfl, hS, h⟩ := h
    refine wg_istore_n (L' := [some (vR 96), some (vI a1), some (vI r5)]) dX9_all_24 (Nat.le_of_ble_eq_true rfl) rfl ?_
    refine wg_iload_n dX9_all_25 rfl ?_
    refine wg_bipush dX9_all_26 qbipush_m4 ?_
    refine wg_icmp_ne dX9_all_28 rfl (fun c6 => ?_) (fun c6 => ?_)
    · replace h := h.1 c6
      refine wg_iload_n dX9_all_34 rfl ?_
      refine wg_iconst dX9_all_35 qiconst_m1 ?_
      refine wg_icmp_ne dX9_all_36 rfl (fun c7 => ?_) (fun c7 => ?_)
      · replace h := h.1 c7
        refine wg_iload_n dX9_all_43 rfl ?_
        refine wg_bipush dX9_all_44 qbipush_m2 ?_
        refine wg_icmp_ne dX9_all_46 rfl (fun c8 => ?_) (fun c8 => ?_)
        · replace h := h.1 c8
          refine wg_aload_n dX9_all_58 rfl (Nat.succ_ne_zero _) ?_
          refine wg_callV (I' := mX9_unbound) (ci := 9) (np := 0) (d' := d) (q := 96) (as := []) (st := []) dX9_all_59 lk_X9_238 ci_X9_unbound rfl (Nat.le_of_ble_eq_true rfl) rfl rfl (Nat.le_of_ble_eq_true rfl) rfl (Nat.le_refl _) ⟨Nat.le_refl _, Nat.le_refl _⟩ h (fun v M9 h => ?_)
          obtain ⟨r10, rfl, hS, h⟩ := h
          refine wg_iload_n dX9_all_62 rfl ?_
          refine wg_callS (I' := mX9_has) (np := 2) (d' := d) (as := [vI r10, vI a1]) (st := []) dX9_all_63 lk_X9_166 ci_X9_has rfl rfl (Nat.le_of_ble_eq_true rfl) (Nat.le_refl _) ⟨Nat.le_refl _, Nat.le_refl _⟩ h (fun v M11 h => ?_)
          obtain ⟨r12, rfl, hS, h⟩ := h
          refine wg_if_eq dX9_all_66 rfl (fun c13 => ?_) (fun c13 => ?_)
          · replace h := h.1 c13
            refine wg_iconst dX9_all_78 qiconst_0 ?_
            exact wp_iret rfl dX9_all_79 ⟨Nat.le_refl _, Nat.le_refl _⟩ h
          · replace h := h.2 c13
            refine wg_aload_n dX9_all_69 rfl (Nat.succ_ne_zero _) ?_
            refine wg_iload_n dX9_all_70 rfl ?_
            refine wg_iload_n dX9_all_71 rfl ?_
            refine wg_callV (I' := mX9_ribbonOf) (ci := 9) (np := 2) (d' := d) (q := 96) (as := [vI a1, vI r5]) (st := []) dX9_all_72 lk_X9_249 ci_X9_ribbonOf rfl (Nat.le_of_ble_eq_true rfl) rfl rfl (Nat.le_of_ble_eq_true rfl) rfl (Nat.le_refl _) ⟨Nat.le_refl _, Nat.le_refl _⟩ h (fun v M14 h => ?_)
            obtain ⟨r15, rfl, hS, h⟩ := h
            refine wg_goto dX9_all_75 rfl ?_
            exact wp_iret rfl dX9_all_79 ⟨Nat.le_refl _, Nat.le_refl _⟩ h
        · replace h := h.2 c8
          refine wg_aload_n dX9_all_49 rfl (Nat.succ_ne_zero _) ?_
          refine wg_iconst dX9_all_50 qiconst_0 ?_
          refine wg_iload_n dX9_all_51 rfl ?_
          refine wg_callV (I' := mX9_costIn) (ci := 9) (np := 2) (d' := d) (q := 96) (as := [vI 0, vI r5]) (st := []) dX9_all_52 lk_X9_225 ci_X9_costIn rfl (Nat.le_of_ble_eq_true rfl) rfl rfl (Nat.le_of_ble_eq_true rfl) rfl (Nat.le_refl _) ⟨Nat.le_refl _, Nat.le_refl _⟩ h (fun v M16 h => ?_)
          obtain ⟨r17, rfl, hS, h⟩ := h
          refine wg_goto dX9_all_55 rfl ?_
          exact wp_iret rfl dX9_all_79 ⟨Nat.le_refl _, Nat.le_refl _⟩ h
      · replace h := h.2 c7
        refine wg_iload_n dX9_all_39 rfl ?_
        refine wg_goto dX9_all_40 rfl ?_
        exact wp_iret rfl dX9_all_79 ⟨Nat.le_refl _, Nat.le_refl _⟩ h
    · replace h := h.2 c6
      refine wg_bipush dX9_all_31 qbipush_m4 ?_
      exact wp_iret rfl dX9_all_33 ⟨Nat.le_refl _, Nat.le_refl _⟩ h
  · replace h := h.2 c3
    refine wg_iconst dX9_all_18 qiconst_m1 ?_
    exact wp_iret rfl dX9_all_19 ⟨Nat.le_refl _, Nat.le_refl _⟩ h
set_option maxRecDepth 100000 in
theorem bX9_more_0 {G : GG} {d : Nat} {M : MM} {Q : Option AV → MM → Prop} (a1 : Int) (hS : ShM M) (h :
Ok G mX9_in d 0 0 [vL a1, vL 1, vL 90] M (fun v M1 => ∃ r2 : Int, v = some (vI r2) ∧ ShM M1 ∧ 
((r2 ≠ 0 →
(Wp G mX9_more (d + 1) 0 0 16 [some (vR 96), some (vI a1), some (vI 0), none, none, none] [] M1 0 0 Q)) ∧
(r2 = 0 →
(Q (some (vI (-1))) M1))))) :
  Wp G mX9_more (d + 1) 0 0 0 [some (vR 96), some (vI a1), none, none, none, none] [] M 0 0 Q := by
  refine wg_iload_n dX9_more_0 rfl ?_
  refine wg_i2l dX9_more_1 ?_
  refine wg_lconst dX9_more_2 rfl ?_
  refine wg_ldc2 dX9_more_3 kc_X9_252 ⟨by decide, by decide⟩ ?_
  refine wg_callS (I' := mX9_in) (np := 3) (d' := d) (as := [vL a1, vL 1, vL 90]) (st := []) dX9_more_6 lk_X9_100 ci_X9_in rfl rfl (Nat.le_of_ble_eq_true rfl) (Nat.le_refl _) ⟨Nat.le_refl _, Nat.le_refl _⟩ h (fun v M1 h => ?_)
  obtain ⟨r2, rfl, hS, h⟩ := h
  refine wg_if_ne dX9_more_9 rfl (fun c3 => ?_) (fun c3 => ?_)
  · replace h := h.1 c3
    refine wg_iconst dX9_more_14 qiconst_0 ?_
    refine wg_istore_n (L' := [some (vR 96), some (vI a1), some (vI 0), none, none, none]) dX9_more_15 (Nat.le_of_ble_eq_true rfl) rfl ?_
    exact h
  · replace h := h.2 c3
    refine wg_iconst dX9_more_12 qiconst_m1 ?_
    exact wp_iret rfl dX9_more_13 ⟨Nat.le_refl _, Nat.le_refl _⟩ h
set_option maxRecDepth 100000 in
theorem bX9_more_16 {G : GG} {d : Nat} {M : MM} {Q : Option AV → MM → Prop} (a1 : Int) (s2 : Int) (hS : ShM M) (h :
((ishlv 1 (gI M 96 5)) ≤ s2 →
(Ok G mX9_thereIn d 0 0 [vR 96, vI 0] M (fun v M2 => ∃ r3 : Int, v = some (vI r3) ∧ ShM M2 ∧ 
(((0 : Int) ≤ r3 ∧ (r3 : Int) < 1024) ∧
(Q (some (vI (gI M2 109 r3.toNat))) M2))))) ∧
(¬ ((ishlv 1 (gI M 96 5)) ≤ s2) →
(Ok G mX9_strengthOf d 0 0 [vR 96, vI s2] M (fun v M5 => ∃ r6 : Int, v = some (vI r6) ∧ ShM M5 ∧ 
(((0 : Int) ≤ s2 ∧ (s2 : Int) < 1024) ∧
(∀ M8 : MM, M8 = stI M5 108 s2.toNat r6 →
(Wp G mX9_more (d + 1) 0 0 42 [some (vR 96), some (vI a1), some (vI s2), some (vI 0), some (vI s2), none] [] M8 0 0 Q))))))) :
  Wp G mX9_more (d + 1) 0 0 16 [some (vR 96), some (vI a1), some (vI s2), none, none, none] [] M 0 0 Q := by
  refine wg_iload_n dX9_more_16 rfl ?_
  refine wg_iconst dX9_more_17 qiconst_1 ?_
  refine wg_aload_n dX9_more_18 rfl (Nat.succ_ne_zero _) ?_
  refine wg_getI dX9_more_19 (fl_X9_74 rfl) rfl rfl ?_
  refine wg_ishl dX9_more_22 ?_
  refine wg_icmp_ge dX9_more_23 rfl (fun c1 => ?_) (fun c1 => ?_)
  · replace h := h.1 c1
    refine wg_aload_n dX9_more_114 rfl (Nat.succ_ne_zero _) ?_
    refine wg_getRe dX9_more_115 (fl_X9_47 rfl) rfl rfl (sm26 hS) ?_
    refine wg_aload_n dX9_more_118 rfl (Nat.succ_ne_zero _) ?_
    refine wg_iconst dX9_more_119 qiconst_0 ?_
    refine wg_callV (I' := mX9_thereIn) (ci := 9) (np := 1) (d' := d) (q := 96) (as := [vI 0]) (st := [vR 109]) dX9_more_120 lk_X9_189 ci_X9_thereIn rfl (Nat.le_of_ble_eq_true rfl) rfl rfl (Nat.le_of_ble_eq_true rfl) rfl (Nat.le_refl _) ⟨Nat.le_refl _, Nat.le_refl _⟩ h (fun v M2 h => ?_)
    obtain ⟨r3, rfl, hS, h⟩ := h
    obtain ⟨o4, h⟩ := h
    refine wg_iald dX9_more_123 rfl o4.1 o4.2 ?_
    exact wp_iret rfl dX9_more_124 ⟨Nat.le_refl _, Nat.le_refl _⟩ h
  · replace h := h.2 c1
    refine wg_aload_n dX9_more_26 rfl (Nat.succ_ne_zero _) ?_
    refine wg_getRe dX9_more_27 (fl_X9_44 rfl) rfl rfl (sm25 hS) ?_
    refine wg_iload_n dX9_more_30 rfl ?_
    refine wg_aload_n dX9_more_31 rfl (Nat.succ_ne_zero _) ?_
    refine wg_iload_n dX9_more_32 rfl ?_
    refine wg_callV (I' := mX9_strengthOf) (ci := 9) (np := 1) (d' := d) (q := 96) (as := [vI s2]) (st := [vI s2, vR 108]) dX9_more_33 lk_X9_198 ci_X9_strengthOf rfl (Nat.le_of_ble_eq_true rfl) rfl rfl (Nat.le_of_ble_eq_true rfl) rfl (Nat.le_refl _) ⟨Nat.le_refl _, Nat.le_refl _⟩ h (fun v M5 h => ?_)
    obtain ⟨r6, rfl, hS, h⟩ := h
    obtain ⟨o7, h⟩ := h
    refine wg_iast dX9_more_36 rfl o7.1 o7.2 ?_
    generalize hM : stI M5 108 s2.toNat r6 = M8
    replace h := h _ hM.symm
    replace hS : ShM M8 := by rw [← hM]; exact hS
    clear hM
    refine wg_iconst dX9_more_37 qiconst_0 ?_
    refine wg_istore_n (L' := [some (vR 96), some (vI a1), some (vI s2), some (vI 0), none, none]) dX9_more_38 (Nat.le_of_ble_eq_true rfl) rfl ?_
    refine wg_iload_n dX9_more_39 rfl ?_
    refine wg_istore (L' := [some (vR 96), some (vI a1), some (vI s2), some (vI 0), some (vI s2), none]) dX9_more_40 (Nat.le_of_ble_eq_true rfl) rfl ?_
    exact h
set_option maxRecDepth 100000 in
theorem bX9_more_42 {G : GG} {d : Nat} {M : MM} {Q : Option AV → MM → Prop} (a1 : Int) (s2 : Int) (s3 : Int) (s4 : Int) (hS : ShM M) (h :
(s4 ≤ 0 →
(((0 : Int) ≤ s2 ∧ (s2 : Int) < 1024) ∧
(∀ M3 : MM, M3 = stI M 109 s2.toNat s3 →
(R32 (s2 + 1) ∧
(Wp G mX9_more (d + 1) 0 0 16 [some (vR 96), some (vI a1), some (vI (s2 + 1)), none, none, none] [] M3 0 0 Q))))) ∧
(¬ (s4 ≤ 0) →
(((0 : Int) ≤ s4 ∧ (s4 : Int) < 1024) ∧
(((gI M 108 s4.toNat) < a1 →
(R32 (s4 - 1) ∧
(Wp G mX9_more (d + 1) 0 0 42 [some (vR 96), some (vI a1), some (vI s2), some (vI (if 0 ≤ s3 then (s3 : Int) else 0)), some (vI (iandv (s4 - 1) s2)), none] [] M 0 0 Q))) ∧
(¬ ((gI M 108 s4.toNat) < a1) →
(((0 : Int) ≤ iandv s2 (ixorv s4 (-1)) ∧ (iandv s2 (ixorv s4 (-1)) : Int) < 1024) ∧
(R32 (1 + (gI M 109 (iandv s2 (ixorv s4 (-1))).toNat)) ∧
(R32 (s4 - 1) ∧
(Wp G mX9_more (d + 1) 0 0 42 [some (vR 96), some (vI a1), some (vI s2), some (vI (if (1 + (gI M 109 (iandv s2 (ixorv s4 (-1))).toNat)) ≤ s3 then (s3 : Int) else 1 + (gI M 109 (iandv s2 (ixorv s4 (-1))).toNat))), some (vI (iandv (s4 - 1) s2)), none] [] M 0 0 Q))))))))) :
  Wp G mX9_more (d + 1) 0 0 42 [some (vR 96), some (vI a1), some (vI s2), some (vI s3), some (vI s4), none] [] M 0 0 Q := by
  refine wg_iload dX9_more_42 rfl ?_
  refine wg_if_le dX9_more_44 rfl (fun c1 => ?_) (fun c1 => ?_)
  · replace h := h.1 c1
    refine wg_aload_n dX9_more_101 rfl (Nat.succ_ne_zero _) ?_
    refine wg_getRe dX9_more_102 (fl_X9_47 rfl) rfl rfl (sm26 hS) ?_
    refine wg_iload_n dX9_more_105 rfl ?_
    refine wg_iload_n dX9_more_106 rfl ?_
    obtain ⟨o2, h⟩ := h
    refine wg_iast dX9_more_107 rfl o2.1 o2.2 ?_
    generalize hM : stI M 109 s2.toNat s3 = M3
    replace h := h _ hM.symm
    replace hS : ShM M3 := by rw [← hM]; exact hS
    clear hM
    obtain ⟨o, h⟩ := h
    refine wg_iinc (L' := [some (vR 96), some (vI a1), some (vI (s2 + 1)), some (vI s3), some (vI s4), none]) dX9_more_108 (Nat.le_of_ble_eq_true rfl) rfl rfl o ?_
    refine wg_goto dX9_more_111 rfl ?_
    refine wg_weak [true, true, true, false, false, false] rfl ?_
    exact h
  · replace h := h.2 c1
    refine wg_aload_n dX9_more_47 rfl (Nat.succ_ne_zero _) ?_
    refine wg_getRe dX9_more_48 (fl_X9_44 rfl) rfl rfl (sm25 hS) ?_
    refine wg_iload dX9_more_51 rfl ?_
    obtain ⟨o4, h⟩ := h
    refine wg_iald dX9_more_53 rfl o4.1 o4.2 ?_
    refine wg_iload_n dX9_more_54 rfl ?_
    refine wg_icmp_lt dX9_more_55 rfl (fun c5 => ?_) (fun c5 => ?_)
    · replace h := h.1 c5
      refine wg_iconst dX9_more_74 qiconst_0 ?_
      refine wg_istore (L' := [some (vR 96), some (vI a1), some (vI s2), some (vI s3), some (vI s4), some (vI 0)]) dX9_more_75 (Nat.le_of_ble_eq_true rfl) rfl ?_
      refine wg_iload dX9_more_77 rfl ?_
      refine wg_iload_n dX9_more_79 rfl ?_
      have hJ7 : Wp G mX9_more (d + 1) 0 0 89 [some (vR 96), some (vI a1), some (vI s2), some (vI s3), some (vI s4), some (vI 0)] [vI (if 0 ≤ s3 then (s3 : Int) else 0)] M 0 0 Q := by
        refine wg_istore_n (L' := [some (vR 96), some (vI a1), some (vI s2), some (vI (if 0 ≤ s3 then (s3 : Int) else 0)), some (vI s4), some (vI 0)]) dX9_more_89 (Nat.le_of_ble_eq_true rfl) rfl ?_
        refine wg_iload dX9_more_90 rfl ?_
        refine wg_iconst dX9_more_92 qiconst_1 ?_
        obtain ⟨o, h⟩ := h
        refine wg_isub dX9_more_93 o ?_
        refine wg_iload_n dX9_more_94 rfl ?_
        refine wg_iand dX9_more_95 ?_
        refine wg_istore (L' := [some (vR 96), some (vI a1), some (vI s2), some (vI (if 0 ≤ s3 then (s3 : Int) else 0)), some (vI (iandv (s4 - 1) s2)), some (vI 0)]) dX9_more_96 (Nat.le_of_ble_eq_true rfl) rfl ?_
        refine wg_goto dX9_more_98 rfl ?_
        refine wg_weak [true, true, true, true, true, false] rfl ?_
        exact h
      refine wg_icmp_le dX9_more_80 rfl (fun c6 => ?_) (fun c6 => ?_)
      · rw [show (if 0 ≤ s3 then (s3 : Int) else 0) = s3 from if_pos c6] at hJ7
        refine wg_iload_n dX9_more_88 rfl ?_
        exact hJ7
      · rw [show (if 0 ≤ s3 then (s3 : Int) else 0) = 0 from if_neg c6] at hJ7
        refine wg_iload dX9_more_83 rfl ?_
        refine wg_goto dX9_more_85 rfl ?_
        exact hJ7
    · replace h := h.2 c5
      refine wg_iconst dX9_more_58 qiconst_1 ?_
      refine wg_aload_n dX9_more_59 rfl (Nat.succ_ne_zero _) ?_
      refine wg_getRe dX9_more_60 (fl_X9_47 rfl) rfl rfl (sm26 hS) ?_
      refine wg_iload_n dX9_more_63 rfl ?_
      refine wg_iload dX9_more_64 rfl ?_
      refine wg_iconst dX9_more_66 qiconst_m1 ?_
      refine wg_ixor dX9_more_67 ?_
      refine wg_iand dX9_more_68 ?_
      obtain ⟨o8, h⟩ := h
      refine wg_iald dX9_more_69 rfl o8.1 o8.2 ?_
      obtain ⟨o, h⟩ := h
      refine wg_iadd dX9_more_70 o ?_
      refine wg_goto dX9_more_71 rfl ?_
      refine wg_istore (L' := [some (vR 96), some (vI a1), some (vI s2), some (vI s3), some (vI s4), some (vI (1 + (gI M 109 (iandv s2 (ixorv s4 (-1))).toNat)))]) dX9_more_75 (Nat.le_of_ble_eq_true rfl) rfl ?_
      refine wg_iload dX9_more_77 rfl ?_
      refine wg_iload_n dX9_more_79 rfl ?_
      have hJ10 : Wp G mX9_more (d + 1) 0 0 89 [some (vR 96), some (vI a1), some (vI s2), some (vI s3), some (vI s4), some (vI (1 + (gI M 109 (iandv s2 (ixorv s4 (-1))).toNat)))] [vI (if (1 + (gI M 109 (iandv s2 (ixorv s4 (-1))).toNat)) ≤ s3 then (s3 : Int) else 1 + (gI M 109 (iandv s2 (ixorv s4 (-1))).toNat))] M 0 0 Q := by
        refine wg_istore_n (L' := [some (vR 96), some (vI a1), some (vI s2), some (vI (if (1 + (gI M 109 (iandv s2 (ixorv s4 (-1))).toNat)) ≤ s3 then (s3 : Int) else 1 + (gI M 109 (iandv s2 (ixorv s4 (-1))).toNat))), some (vI s4), some (vI (1 + (gI M 109 (iandv s2 (ixorv s4 (-1))).toNat)))]) dX9_more_89 (Nat.le_of_ble_eq_true rfl) rfl ?_
        refine wg_iload dX9_more_90 rfl ?_
        refine wg_iconst dX9_more_92 qiconst_1 ?_
        obtain ⟨o, h⟩ := h
        refine wg_isub dX9_more_93 o ?_
        refine wg_iload_n dX9_more_94 rfl ?_
        refine wg_iand dX9_more_95 ?_
        refine wg_istore (L' := [some (vR 96), some (vI a1), some (vI s2), some (vI (if (1 + (gI M 109 (iandv s2 (ixorv s4 (-1))).toNat)) ≤ s3 then (s3 : Int) else 1 + (gI M 109 (iandv s2 (ixorv s4 (-1))).toNat))), some (vI (iandv (s4 - 1) s2)), some (vI (1 + (gI M 109 (iandv s2 (ixorv s4 (-1))).toNat)))]) dX9_more_96 (Nat.le_of_ble_eq_true rfl) rfl ?_
        refine wg_goto dX9_more_98 rfl ?_
        refine wg_weak [true, true, true, true, true, false] rfl ?_
        exact h
      refine wg_icmp_le dX9_more_80 rfl (fun c9 => ?_) (fun c9 => ?_)
      · rw [show (if (1 + (gI M 109 (iandv s2 (ixorv s4 (-1))).toNat)) ≤ s3 then (s3 : Int) else 1 + (gI M 109 (iandv s2 (ixorv s4 (-1))).toNat)) = s3 from if_pos c9] at hJ10
        refine wg_iload_n dX9_more_88 rfl ?_
        exact hJ10
      · rw [show (if (1 + (gI M 109 (iandv s2 (ixorv s4 (-1))).toNat)) ≤ s3 then (s3 : Int) else 1 + (gI M 109 (iandv s2 (ixorv s4 (-1))).toNat)) = 1 + (gI M 109 (iandv s2 (ixorv s4 (-1))).toNat) from if_neg c9] at hJ10
        refine wg_iload dX9_more_83 rfl ?_
        refine wg_goto dX9_more_85 rfl ?_
        exact hJ10
set_option maxRecDepth 100000 in
theorem bX9_worst_0 {G : GG} {d : Nat} {M : MM} {Q : Option AV → MM → Prop} (a1 : Int) (hS : ShM M) (h :
Ok G mX9_in d 0 0 [vL a1, vL 0, vL 1] M (fun v M1 => ∃ r2 : Int, v = some (vI r2) ∧ ShM M1 ∧ 
((r2 ≠ 0 →
(Ok G mX9_thereIn d 0 0 [vR 96, vI 0] M1 (fun v M4 => ∃ r5 : Int, v = some (vI r5) ∧ ShM M4 ∧ 
(Wp G mX9_worst (d + 1) 0 0 28 [some (vR 96), some (vI a1), some (vI r5), some (vI (-4)), some (vI (-4)), some (vI 0), none] [] M4 0 0 Q)))) ∧
(r2 = 0 →
(Q (some (vI (-1))) M1))))) :
  Wp G mX9_worst (d + 1) 0 0 0 [some (vR 96), some (vI a1), none, none, none, none, none] [] M 0 0 Q := by
  refine wg_iload_n dX9_worst_0 rfl ?_
  refine wg_i2l dX9_worst_1 ?_
  refine wg_lconst dX9_worst_2 rfl ?_
  refine wg_lconst dX9_worst_3 rfl ?_
  refine wg_callS (I' := mX9_in) (np := 3) (d' := d) (as := [vL a1, vL 0, vL 1]) (st := []) dX9_worst_4 lk_X9_100 ci_X9_in rfl rfl (Nat.le_of_ble_eq_true rfl) (Nat.le_refl _) ⟨Nat.le_refl _, Nat.le_refl _⟩ h (fun v M1 h => ?_)
  obtain ⟨r2, rfl, hS, h⟩ := h
  refine wg_if_ne dX9_worst_7 rfl (fun c3 => ?_) (fun c3 => ?_)
  · replace h := h.1 c3
    refine wg_aload_n dX9_worst_12 rfl (Nat.succ_ne_zero _) ?_
    refine wg_iconst dX9_worst_13 qiconst_0 ?_
    refine wg_callV (I' := mX9_thereIn) (ci := 9) (np := 1) (d' := d) (q := 96) (as := [vI 0]) (st := []) dX9_worst_14 lk_X9_189 ci_X9_thereIn rfl (Nat.le_of_ble_eq_true rfl) rfl rfl (Nat.le_of_ble_eq_true rfl) rfl (Nat.le_refl _) ⟨Nat.le_refl _, Nat.le_refl _⟩ h (fun v M4 h => ?_)
    obtain ⟨r5, rfl, hS, h⟩ := h
    refine wg_istore_n (L' := [some (vR 96), some (vI a1), some (vI r5), none, none, none, none]) dX9_worst_17 (Nat.le_of_ble_eq_true rfl) rfl ?_
    refine wg_bipush dX9_worst_18 qbipush_m4 ?_
    refine wg_istore_n (L' := [some (vR 96), some (vI a1), some (vI r5), some (vI (-4)), none, none, none]) dX9_worst_20 (Nat.le_of_ble_eq_true rfl) rfl ?_
    refine wg_bipush dX9_worst_21 qbipush_m4 ?_
    refine wg_istore (L' := [some (vR 96), some (vI a1), some (vI r5), some (vI (-4)), some (vI (-4)), none, none]) dX9_worst_23 (Nat.le_of_ble_eq_true rfl) rfl ?_
    refine wg_iconst dX9_worst_25 qiconst_0 ?_
    refine wg_istore (L' := [some (vR 96), some (vI a1), some (vI r5), some (vI (-4)), some (vI (-4)), some (vI 0), none]) dX9_worst_26 (Nat.le_of_ble_eq_true rfl) rfl ?_
    exact h
  · replace h := h.2 c3
    refine wg_iconst dX9_worst_10 qiconst_m1 ?_
    exact wp_iret rfl dX9_worst_11 ⟨Nat.le_refl _, Nat.le_refl _⟩ h
set_option maxRecDepth 100000 in
theorem bX9_worst_28 {G : GG} {d : Nat} {M : MM} {Q : Option AV → MM → Prop} (a1 : Int) (s2 : Int) (s3 : Int) (s4 : Int) (s5 : Int) (hS : ShM M) (h :
((gI M 96 5) ≤ s5 →
(Q (some (vI (if a1 = 0 then (s3 : Int) else s4))) M)) ∧
(¬ ((gI M 96 5) ≤ s5) →
(Ok G mX9_has d 0 0 [vI s2, vI s5] M (fun v M4 => ∃ r5 : Int, v = some (vI r5) ∧ ShM M4 ∧ 
((r5 = 0 →
(R32 (s5 + 1) ∧
(Wp G mX9_worst (d + 1) 0 0 28 [some (vR 96), some (vI a1), some (vI s2), some (vI (if (-4) ≤ s4 then (s3 : Int) else s5)), some (vI (if (-4) ≤ s4 then (s4 : Int) else (-4))), some (vI (s5 + 1)), none] [] M4 0 0 Q))) ∧
(¬ (r5 = 0) →
(Ok G mX9_followsOf d 0 0 [vR 96, vI (ishlv 1 s5)] M4 (fun v M11 => ∃ r12 : Int, v = some (vI r12) ∧ ShM M11 ∧ 
(Ok G mX9_bits d 0 0 [vI (iandv (iandv r12 s2) (ixorv (ishlv 1 s5) (-1)))] M11 (fun v M13 => ∃ r14 : Int, v = some (vI r14) ∧ ShM M13 ∧ 
(R32 (s5 + 1) ∧
(Wp G mX9_worst (d + 1) 0 0 28 [some (vR 96), some (vI a1), some (vI s2), some (vI (if r14 ≤ s4 then (s3 : Int) else s5)), some (vI (if r14 ≤ s4 then (s4 : Int) else r14)), some (vI (s5 + 1)), none] [] M13 0 0 Q)))))))))))) :
  Wp G mX9_worst (d + 1) 0 0 28 [some (vR 96), some (vI a1), some (vI s2), some (vI s3), some (vI s4), some (vI s5), none] [] M 0 0 Q := by
  refine wg_iload dX9_worst_28 rfl ?_
  refine wg_aload_n dX9_worst_30 rfl (Nat.succ_ne_zero _) ?_
  refine wg_getI dX9_worst_31 (fl_X9_74 rfl) rfl rfl ?_
  refine wg_icmp_ge dX9_worst_34 rfl (fun c1 => ?_) (fun c1 => ?_)
  · replace h := h.1 c1
    refine wg_iload_n dX9_worst_109 rfl ?_
    have hJ3 : Wp G mX9_worst (d + 1) 0 0 119 [some (vR 96), some (vI a1), some (vI s2), some (vI s3), some (vI s4), some (vI s5), none] [vI (if a1 = 0 then (s3 : Int) else s4)] M 0 0 Q := by
      exact wp_iret rfl dX9_worst_119 ⟨Nat.le_refl _, Nat.le_refl _⟩ h
    refine wg_if_ne dX9_worst_110 rfl (fun c2 => ?_) (fun c2 => ?_)
    · rw [show (if a1 = 0 then (s3 : Int) else s4) = s4 from if_neg c2] at hJ3
      refine wg_iload dX9_worst_117 rfl ?_
      exact hJ3
    · rw [show (if a1 = 0 then (s3 : Int) else s4) = s3 from if_pos c2] at hJ3
      refine wg_iload_n dX9_worst_113 rfl ?_
      refine wg_goto dX9_worst_114 rfl ?_
      exact hJ3
  · replace h := h.2 c1
    refine wg_iload_n dX9_worst_37 rfl ?_
    refine wg_iload dX9_worst_38 rfl ?_
    refine wg_callS (I' := mX9_has) (np := 2) (d' := d) (as := [vI s2, vI s5]) (st := []) dX9_worst_40 lk_X9_166 ci_X9_has rfl rfl (Nat.le_of_ble_eq_true rfl) (Nat.le_refl _) ⟨Nat.le_refl _, Nat.le_refl _⟩ h (fun v M4 h => ?_)
    obtain ⟨r5, rfl, hS, h⟩ := h
    refine wg_if_eq dX9_worst_43 rfl (fun c6 => ?_) (fun c6 => ?_)
    · replace h := h.1 c6
      refine wg_bipush dX9_worst_69 qbipush_m4 ?_
      refine wg_istore (L' := [some (vR 96), some (vI a1), some (vI s2), some (vI s3), some (vI s4), some (vI s5), some (vI (-4))]) dX9_worst_71 (Nat.le_of_ble_eq_true rfl) rfl ?_
      refine wg_iload dX9_worst_73 rfl ?_
      refine wg_iload dX9_worst_75 rfl ?_
      have hJ10 : Wp G mX9_worst (d + 1) 0 0 86 [some (vR 96), some (vI a1), some (vI s2), some (vI s3), some (vI s4), some (vI s5), some (vI (-4))] [vI (if (-4) ≤ s4 then (s3 : Int) else s5)] M4 0 0 Q := by
        refine wg_istore_n (L' := [some (vR 96), some (vI a1), some (vI s2), some (vI (if (-4) ≤ s4 then (s3 : Int) else s5)), some (vI s4), some (vI s5), some (vI (-4))]) dX9_worst_86 (Nat.le_of_ble_eq_true rfl) rfl ?_
        refine wg_iload dX9_worst_87 rfl ?_
        refine wg_iload dX9_worst_89 rfl ?_
        have hJ9 : Wp G mX9_worst (d + 1) 0 0 101 [some (vR 96), some (vI a1), some (vI s2), some (vI (if (-4) ≤ s4 then (s3 : Int) else s5)), some (vI s4), some (vI s5), some (vI (-4))] [vI (if (-4) ≤ s4 then (s4 : Int) else (-4))] M4 0 0 Q := by
          refine wg_istore (L' := [some (vR 96), some (vI a1), some (vI s2), some (vI (if (-4) ≤ s4 then (s3 : Int) else s5)), some (vI (if (-4) ≤ s4 then (s4 : Int) else (-4))), some (vI s5), some (vI (-4))]) dX9_worst_101 (Nat.le_of_ble_eq_true rfl) rfl ?_
          obtain ⟨o, h⟩ := h
          refine wg_iinc (L' := [some (vR 96), some (vI a1), some (vI s2), some (vI (if (-4) ≤ s4 then (s3 : Int) else s5)), some (vI (if (-4) ≤ s4 then (s4 : Int) else (-4))), some (vI (s5 + 1)), some (vI (-4))]) dX9_worst_103 (Nat.le_of_ble_eq_true rfl) rfl rfl o ?_
          refine wg_goto dX9_worst_106 rfl ?_
          refine wg_weak [true, true, true, true, true, true, false] rfl ?_
          exact h
        refine wg_icmp_le dX9_worst_91 rfl (fun c8 => ?_) (fun c8 => ?_)
        · rw [show (if (-4) ≤ s4 then (s4 : Int) else (-4)) = s4 from if_pos c8] at hJ9
          refine wg_iload dX9_worst_99 rfl ?_
          exact hJ9
        · rw [show (if (-4) ≤ s4 then (s4 : Int) else (-4)) = (-4) from if_neg c8] at hJ9
          refine wg_iload dX9_worst_94 rfl ?_
          refine wg_goto dX9_worst_96 rfl ?_
          exact hJ9
      refine wg_icmp_le dX9_worst_77 rfl (fun c7 => ?_) (fun c7 => ?_)
      · rw [show (if (-4) ≤ s4 then (s3 : Int) else s5) = s3 from if_pos c7] at hJ10
        refine wg_iload_n dX9_worst_85 rfl ?_
        exact hJ10
      · rw [show (if (-4) ≤ s4 then (s3 : Int) else s5) = s5 from if_neg c7] at hJ10
        refine wg_iload dX9_worst_80 rfl ?_
        refine wg_goto dX9_worst_82 rfl ?_
        exact hJ10
    · replace h := h.2 c6
      refine wg_aload_n dX9_worst_46 rfl (Nat.succ_ne_zero _) ?_
      refine wg_iconst dX9_worst_47 qiconst_1 ?_
      refine wg_iload dX9_worst_48 rfl ?_
      refine wg_ishl dX9_worst_50 ?_
      refine wg_callV (I' := mX9_followsOf) (ci := 9) (np := 1) (d' := d) (q := 96) (as := [vI (ishlv 1 s5)]) (st := []) dX9_worst_51 lk_X9_174 ci_X9_followsOf rfl (Nat.le_of_ble_eq_true rfl) rfl rfl (Nat.le_of_ble_eq_true rfl) rfl (Nat.le_refl _) ⟨Nat.le_refl _, Nat.le_refl _⟩ h (fun v M11 h => ?_)
      obtain ⟨r12, rfl, hS, h⟩ := h
      refine wg_iload_n dX9_worst_54 rfl ?_
      refine wg_iand dX9_worst_55 ?_
      refine wg_iconst dX9_worst_56 qiconst_1 ?_
      refine wg_iload dX9_worst_57 rfl ?_
      refine wg_ishl dX9_worst_59 ?_
      refine wg_iconst dX9_worst_60 qiconst_m1 ?_
      refine wg_ixor dX9_worst_61 ?_
      refine wg_iand dX9_worst_62 ?_
      refine wg_callS (I' := mX9_bits) (np := 1) (d' := d) (as := [vI (iandv (iandv r12 s2) (ixorv (ishlv 1 s5) (-1)))]) (st := []) dX9_worst_63 lk_X9_214 ci_X9_bits rfl rfl (Nat.le_of_ble_eq_true rfl) (Nat.le_refl _) ⟨Nat.le_refl _, Nat.le_refl _⟩ h (fun v M13 h => ?_)
      obtain ⟨r14, rfl, hS, h⟩ := h
      refine wg_goto dX9_worst_66 rfl ?_
      refine wg_istore (L' := [some (vR 96), some (vI a1), some (vI s2), some (vI s3), some (vI s4), some (vI s5), some (vI r14)]) dX9_worst_71 (Nat.le_of_ble_eq_true rfl) rfl ?_
      refine wg_iload dX9_worst_73 rfl ?_
      refine wg_iload dX9_worst_75 rfl ?_
      have hJ18 : Wp G mX9_worst (d + 1) 0 0 86 [some (vR 96), some (vI a1), some (vI s2), some (vI s3), some (vI s4), some (vI s5), some (vI r14)] [vI (if r14 ≤ s4 then (s3 : Int) else s5)] M13 0 0 Q := by
        refine wg_istore_n (L' := [some (vR 96), some (vI a1), some (vI s2), some (vI (if r14 ≤ s4 then (s3 : Int) else s5)), some (vI s4), some (vI s5), some (vI r14)]) dX9_worst_86 (Nat.le_of_ble_eq_true rfl) rfl ?_
        refine wg_iload dX9_worst_87 rfl ?_
        refine wg_iload dX9_worst_89 rfl ?_
        have hJ17 : Wp G mX9_worst (d + 1) 0 0 101 [some (vR 96), some (vI a1), some (vI s2), some (vI (if r14 ≤ s4 then (s3 : Int) else s5)), some (vI s4), some (vI s5), some (vI r14)] [vI (if r14 ≤ s4 then (s4 : Int) else r14)] M13 0 0 Q := by
          refine wg_istore (L' := [some (vR 96), some (vI a1), some (vI s2), some (vI (if r14 ≤ s4 then (s3 : Int) else s5)), some (vI (if r14 ≤ s4 then (s4 : Int) else r14)), some (vI s5), some (vI r14)]) dX9_worst_101 (Nat.le_of_ble_eq_true rfl) rfl ?_
          obtain ⟨o, h⟩ := h
          refine wg_iinc (L' := [some (vR 96), some (vI a1), some (vI s2), some (vI (if r14 ≤ s4 then (s3 : Int) else s5)), some (vI (if r14 ≤ s4 then (s4 : Int) else r14)), some (vI (s5 + 1)), some (vI r14)]) dX9_worst_103 (Nat.le_of_ble_eq_true rfl) rfl rfl o ?_
          refine wg_goto dX9_worst_106 rfl ?_
          refine wg_weak [true, true, true, true, true, true, false] rfl ?_
          exact h
        refine wg_icmp_le dX9_worst_91 rfl (fun c16 => ?_) (fun c16 => ?_)
        · rw [show (if r14 ≤ s4 then (s4 : Int) else r14) = s4 from if_pos c16] at hJ17
          refine wg_iload dX9_worst_99 rfl ?_
          exact hJ17
        · rw [show (if r14 ≤ s4 then (s4 : Int) else r14) = r14 from if_neg c16] at hJ17
          refine wg_iload dX9_worst_94 rfl ?_
          refine wg_goto dX9_worst_96 rfl ?_
          exact hJ17
      refine wg_icmp_le dX9_worst_77 rfl (fun c15 => ?_) (fun c15 => ?_)
      · rw [show (if r14 ≤ s4 then (s3 : Int) else s5) = s3 from if_pos c15] at hJ18
        refine wg_iload_n dX9_worst_85 rfl ?_
        exact hJ18
      · rw [show (if r14 ≤ s4 then (s3 : Int) else s5) = s5 from if_neg c15] at hJ18
        refine wg_iload dX9_worst_80 rfl ?_
        refine wg_goto dX9_worst_82 rfl ?_
        exact hJ18
set_option maxRecDepth 100000 in
theorem bX9_back_0 {G : GG} {d : Nat} {M : MM} {Q : Option AV → MM → Prop} (a1 : Int) (hS : ShM M) (h :
Ok G mX9_isThing d 0 0 [vR 96, vI a1] M (fun v M1 => ∃ r2 : Int, v = some (vI r2) ∧ ShM M1 ∧ 
((r2 ≠ 0 →
(Ok G mX9_goneIn d 0 0 [vR 96, vI 0] M1 (fun v M4 => ∃ r5 : Int, v = some (vI r5) ∧ ShM M4 ∧ 
(Wp G mX9_back (d + 1) 0 0 21 [some (vR 96), some (vI a1), some (vI r5), some (vI 0), some (vI 0)] [] M4 0 0 Q)))) ∧
(r2 = 0 →
(Q (some (vI (-1))) M1))))) :
  Wp G mX9_back (d + 1) 0 0 0 [some (vR 96), some (vI a1), none, none, none] [] M 0 0 Q := by
  refine wg_aload_n dX9_back_0 rfl (Nat.succ_ne_zero _) ?_
  refine wg_iload_n dX9_back_1 rfl ?_
  refine wg_callV (I' := mX9_isThing) (ci := 9) (np := 1) (d' := d) (q := 96) (as := [vI a1]) (st := []) dX9_back_2 lk_X9_186 ci_X9_isThing rfl (Nat.le_of_ble_eq_true rfl) rfl rfl (Nat.le_of_ble_eq_true rfl) rfl (Nat.le_refl _) ⟨Nat.le_refl _, Nat.le_refl _⟩ h (fun v M1 h => ?_)
  obtain ⟨r2, rfl, hS, h⟩ := h
  refine wg_if_ne dX9_back_5 rfl (fun c3 => ?_) (fun c3 => ?_)
  · replace h := h.1 c3
    refine wg_aload_n dX9_back_10 rfl (Nat.succ_ne_zero _) ?_
    refine wg_iconst dX9_back_11 qiconst_0 ?_
    refine wg_callV (I' := mX9_goneIn) (ci := 9) (np := 1) (d' := d) (q := 96) (as := [vI 0]) (st := []) dX9_back_12 lk_X9_170 ci_X9_goneIn rfl (Nat.le_of_ble_eq_true rfl) rfl rfl (Nat.le_of_ble_eq_true rfl) rfl (Nat.le_refl _) ⟨Nat.le_refl _, Nat.le_refl _⟩ h (fun v M4 h => ?_)
    obtain ⟨r5, rfl, hS, h⟩ := h
    refine wg_istore_n (L' := [some (vR 96), some (vI a1), some (vI r5), none, none]) dX9_back_15 (Nat.le_of_ble_eq_true rfl) rfl ?_
    refine wg_iconst dX9_back_16 qiconst_0 ?_
    refine wg_istore_n (L' := [some (vR 96), some (vI a1), some (vI r5), some (vI 0), none]) dX9_back_17 (Nat.le_of_ble_eq_true rfl) rfl ?_
    refine wg_iconst dX9_back_18 qiconst_0 ?_
    refine wg_istore (L' := [some (vR 96), some (vI a1), some (vI r5), some (vI 0), some (vI 0)]) dX9_back_19 (Nat.le_of_ble_eq_true rfl) rfl ?_
    exact h
  · replace h := h.2 c3
    refine wg_iconst dX9_back_8 qiconst_m1 ?_
    exact wp_iret rfl dX9_back_9 ⟨Nat.le_refl _, Nat.le_refl _⟩ h
set_option maxRecDepth 100000 in
theorem bX9_back_21 {G : GG} {d : Nat} {M : MM} {Q : Option AV → MM → Prop} (a1 : Int) (s2 : Int) (s3 : Int) (s4 : Int) (hS : ShM M) (h :
((gI M 96 5) ≤ s4 →
(Q (some (vI s3)) M)) ∧
(¬ ((gI M 96 5) ≤ s4) →
(Ok G mX9_has d 0 0 [vI s2, vI s4] M (fun v M2 => ∃ r3 : Int, v = some (vI r3) ∧ ShM M2 ∧ 
((r3 = 0 →
(R32 (s4 + 1) ∧
(Wp G mX9_back (d + 1) 0 0 21 [some (vR 96), some (vI a1), some (vI s2), some (vI (iorv s3 0)), some (vI (s4 + 1))] [] M2 0 0 Q))) ∧
(¬ (r3 = 0) →
(Ok G mX9_followsOf d 0 0 [vR 96, vI (ishlv 1 s4)] M2 (fun v M5 => ∃ r6 : Int, v = some (vI r6) ∧ ShM M5 ∧ 
(Ok G mX9_has d 0 0 [vI r6, vI a1] M5 (fun v M7 => ∃ r8 : Int, v = some (vI r8) ∧ ShM M7 ∧ 
(R32 (s4 + 1) ∧
(Wp G mX9_back (d + 1) 0 0 21 [some (vR 96), some (vI a1), some (vI s2), some (vI (iorv s3 (if r8 = 0 then (0 : Int) else ishlv 1 s4))), some (vI (s4 + 1))] [] M7 0 0 Q)))))))))))) :
  Wp G mX9_back (d + 1) 0 0 21 [some (vR 96), some (vI a1), some (vI s2), some (vI s3), some (vI s4)] [] M 0 0 Q := by
  refine wg_iload dX9_back_21 rfl ?_
  refine wg_aload_n dX9_back_23 rfl (Nat.succ_ne_zero _) ?_
  refine wg_getI dX9_back_24 (fl_X9_74 rfl) rfl rfl ?_
  refine wg_icmp_ge dX9_back_27 rfl (fun c1 => ?_) (fun c1 => ?_)
  · replace h := h.1 c1
    refine wg_iload_n dX9_back_71 rfl ?_
    exact wp_iret rfl dX9_back_72 ⟨Nat.le_refl _, Nat.le_refl _⟩ h
  · replace h := h.2 c1
    refine wg_iload_n dX9_back_30 rfl ?_
    refine wg_iload_n dX9_back_31 rfl ?_
    refine wg_iload dX9_back_32 rfl ?_
    refine wg_callS (I' := mX9_has) (np := 2) (d' := d) (as := [vI s2, vI s4]) (st := [vI s3]) dX9_back_34 lk_X9_166 ci_X9_has rfl rfl (Nat.le_of_ble_eq_true rfl) (Nat.le_refl _) ⟨Nat.le_refl _, Nat.le_refl _⟩ h (fun v M2 h => ?_)
    obtain ⟨r3, rfl, hS, h⟩ := h
    refine wg_if_eq dX9_back_37 rfl (fun c4 => ?_) (fun c4 => ?_)
    · replace h := h.1 c4
      refine wg_iconst dX9_back_62 qiconst_0 ?_
      refine wg_ior dX9_back_63 ?_
      refine wg_istore_n (L' := [some (vR 96), some (vI a1), some (vI s2), some (vI (iorv s3 0)), some (vI s4)]) dX9_back_64 (Nat.le_of_ble_eq_true rfl) rfl ?_
      obtain ⟨o, h⟩ := h
      refine wg_iinc (L' := [some (vR 96), some (vI a1), some (vI s2), some (vI (iorv s3 0)), some (vI (s4 + 1))]) dX9_back_65 (Nat.le_of_ble_eq_true rfl) rfl rfl o ?_
      refine wg_goto dX9_back_68 rfl ?_
      exact h
    · replace h := h.2 c4
      refine wg_aload_n dX9_back_40 rfl (Nat.succ_ne_zero _) ?_
      refine wg_iconst dX9_back_41 qiconst_1 ?_
      refine wg_iload dX9_back_42 rfl ?_
      refine wg_ishl dX9_back_44 ?_
      refine wg_callV (I' := mX9_followsOf) (ci := 9) (np := 1) (d' := d) (q := 96) (as := [vI (ishlv 1 s4)]) (st := [vI s3]) dX9_back_45 lk_X9_174 ci_X9_followsOf rfl (Nat.le_of_ble_eq_true rfl) rfl rfl (Nat.le_of_ble_eq_true rfl) rfl (Nat.le_refl _) ⟨Nat.le_refl _, Nat.le_refl _⟩ h (fun v M5 h => ?_)
      obtain ⟨r6, rfl, hS, h⟩ := h
      refine wg_iload_n dX9_back_48 rfl ?_
      refine wg_callS (I' := mX9_has) (np := 2) (d' := d) (as := [vI r6, vI a1]) (st := [vI s3]) dX9_back_49 lk_X9_166 ci_X9_has rfl rfl (Nat.le_of_ble_eq_true rfl) (Nat.le_refl _) ⟨Nat.le_refl _, Nat.le_refl _⟩ h (fun v M7 h => ?_)
      obtain ⟨r8, rfl, hS, h⟩ := h
      have hJ10 : Wp G mX9_back (d + 1) 0 0 63 [some (vR 96), some (vI a1), some (vI s2), some (vI s3), some (vI s4)] [vI (if r8 = 0 then (0 : Int) else ishlv 1 s4), vI s3] M7 0 0 Q := by
        refine wg_ior dX9_back_63 ?_
        refine wg_istore_n (L' := [some (vR 96), some (vI a1), some (vI s2), some (vI (iorv s3 (if r8 = 0 then (0 : Int) else ishlv 1 s4))), some (vI s4)]) dX9_back_64 (Nat.le_of_ble_eq_true rfl) rfl ?_
        obtain ⟨o, h⟩ := h
        refine wg_iinc (L' := [some (vR 96), some (vI a1), some (vI s2), some (vI (iorv s3 (if r8 = 0 then (0 : Int) else ishlv 1 s4))), some (vI (s4 + 1))]) dX9_back_65 (Nat.le_of_ble_eq_true rfl) rfl rfl o ?_
        refine wg_goto dX9_back_68 rfl ?_
        exact h
      refine wg_if_eq dX9_back_52 rfl (fun c9 => ?_) (fun c9 => ?_)
      · rw [show (if r8 = 0 then (0 : Int) else ishlv 1 s4) = 0 from if_pos c9] at hJ10
        refine wg_iconst dX9_back_62 qiconst_0 ?_
        exact hJ10
      · rw [show (if r8 = 0 then (0 : Int) else ishlv 1 s4) = ishlv 1 s4 from if_neg c9] at hJ10
        refine wg_iconst dX9_back_55 qiconst_1 ?_
        refine wg_iload dX9_back_56 rfl ?_
        refine wg_ishl dX9_back_58 ?_
        refine wg_goto dX9_back_59 rfl ?_
        exact hJ10
set_option maxRecDepth 100000 in
theorem bX9_whoMiss_0 {G : GG} {d : Nat} {M : MM} {Q : Option AV → MM → Prop} (a1 : Int) (hS : ShM M) (h :
Wp G mX9_whoMiss (d + 1) 0 0 4 [some (vR 96), some (vI a1), some (vI 0), some (vI 0)] [] M 0 0 Q) :
  Wp G mX9_whoMiss (d + 1) 0 0 0 [some (vR 96), some (vI a1), none, none] [] M 0 0 Q := by
  refine wg_iconst dX9_whoMiss_0 qiconst_0 ?_
  refine wg_istore_n (L' := [some (vR 96), some (vI a1), some (vI 0), none]) dX9_whoMiss_1 (Nat.le_of_ble_eq_true rfl) rfl ?_
  refine wg_iconst dX9_whoMiss_2 qiconst_0 ?_
  refine wg_istore_n (L' := [some (vR 96), some (vI a1), some (vI 0), some (vI 0)]) dX9_whoMiss_3 (Nat.le_of_ble_eq_true rfl) rfl ?_
  exact h
set_option maxRecDepth 100000 in
theorem bX9_whoMiss_4 {G : GG} {d : Nat} {M : MM} {Q : Option AV → MM → Prop} (a1 : Int) (s2 : Int) (s3 : Int) (hS : ShM M) (h :
((gI M 96 10) ≤ s3 →
(Q (some (vI s2)) M)) ∧
(¬ ((gI M 96 10) ≤ s3) →
(((0 : Int) ≤ s3 ∧ (s3 : Int) < 8) ∧
(Ok G mX9_has d 0 0 [vI a1, vI (gI M 102 s3.toNat)] M (fun v M3 => ∃ r4 : Int, v = some (vI r4) ∧ ShM M3 ∧ 
(R32 (s3 + 1) ∧
(Wp G mX9_whoMiss (d + 1) 0 0 4 [some (vR 96), some (vI a1), some (vI (iorv s2 (if r4 = 0 then (0 : Int) else ishlv 1 s3))), some (vI (s3 + 1))] [] M3 0 0 Q))))))) :
  Wp G mX9_whoMiss (d + 1) 0 0 4 [some (vR 96), some (vI a1), some (vI s2), some (vI s3)] [] M 0 0 Q := by
  refine wg_iload_n dX9_whoMiss_4 rfl ?_
  refine wg_aload_n dX9_whoMiss_5 rfl (Nat.succ_ne_zero _) ?_
  refine wg_getI dX9_whoMiss_6 (fl_X9_81 rfl) rfl rfl ?_
  refine wg_icmp_ge dX9_whoMiss_9 rfl (fun c1 => ?_) (fun c1 => ?_)
  · replace h := h.1 c1
    refine wg_iload_n dX9_whoMiss_41 rfl ?_
    exact wp_iret rfl dX9_whoMiss_42 ⟨Nat.le_refl _, Nat.le_refl _⟩ h
  · replace h := h.2 c1
    refine wg_iload_n dX9_whoMiss_12 rfl ?_
    refine wg_iload_n dX9_whoMiss_13 rfl ?_
    refine wg_aload_n dX9_whoMiss_14 rfl (Nat.succ_ne_zero _) ?_
    refine wg_getRe dX9_whoMiss_15 (fl_X9_25 rfl) rfl rfl (sm11 hS) ?_
    refine wg_iload_n dX9_whoMiss_18 rfl ?_
    obtain ⟨o2, h⟩ := h
    refine wg_iald dX9_whoMiss_19 rfl o2.1 o2.2 ?_
    refine wg_callS (I' := mX9_has) (np := 2) (d' := d) (as := [vI a1, vI (gI M 102 s3.toNat)]) (st := [vI s2]) dX9_whoMiss_20 lk_X9_166 ci_X9_has rfl rfl (Nat.le_of_ble_eq_true rfl) (Nat.le_refl _) ⟨Nat.le_refl _, Nat.le_refl _⟩ h (fun v M3 h => ?_)
    obtain ⟨r4, rfl, hS, h⟩ := h
    have hJ6 : Wp G mX9_whoMiss (d + 1) 0 0 33 [some (vR 96), some (vI a1), some (vI s2), some (vI s3)] [vI (if r4 = 0 then (0 : Int) else ishlv 1 s3), vI s2] M3 0 0 Q := by
      refine wg_ior dX9_whoMiss_33 ?_
      refine wg_istore_n (L' := [some (vR 96), some (vI a1), some (vI (iorv s2 (if r4 = 0 then (0 : Int) else ishlv 1 s3))), some (vI s3)]) dX9_whoMiss_34 (Nat.le_of_ble_eq_true rfl) rfl ?_
      obtain ⟨o, h⟩ := h
      refine wg_iinc (L' := [some (vR 96), some (vI a1), some (vI (iorv s2 (if r4 = 0 then (0 : Int) else ishlv 1 s3))), some (vI (s3 + 1))]) dX9_whoMiss_35 (Nat.le_of_ble_eq_true rfl) rfl rfl o ?_
      refine wg_goto dX9_whoMiss_38 rfl ?_
      exact h
    refine wg_if_eq dX9_whoMiss_23 rfl (fun c5 => ?_) (fun c5 => ?_)
    · rw [show (if r4 = 0 then (0 : Int) else ishlv 1 s3) = 0 from if_pos c5] at hJ6
      refine wg_iconst dX9_whoMiss_32 qiconst_0 ?_
      exact hJ6
    · rw [show (if r4 = 0 then (0 : Int) else ishlv 1 s3) = ishlv 1 s3 from if_neg c5] at hJ6
      refine wg_iconst dX9_whoMiss_26 qiconst_1 ?_
      refine wg_iload_n dX9_whoMiss_27 rfl ?_
      refine wg_ishl dX9_whoMiss_28 ?_
      refine wg_goto dX9_whoMiss_29 rfl ?_
      exact hJ6
set_option maxRecDepth 100000 in
theorem bX9_missing_0 {G : GG} {d : Nat} {M : MM} {Q : Option AV → MM → Prop} (a1 : Int) (a2 : Int) (a3 : Int) (hS : ShM M) (h :
R32 ((ishlv 1 (gI M 96 10)) - 1) ∧
(Ok G mX9_in d 0 0 [vL a1, vL 0, vL ((ishlv 1 (gI M 96 10)) - 1)] M (fun v M1 => ∃ r2 : Int, v = some (vI r2) ∧ ShM M1 ∧ 
((r2 = 0 →
(Q (some (vI (-1))) M1)) ∧
(¬ (r2 = 0) →
(Ok G mX9_in d 0 0 [vL a2, vL 0, vL 90] M1 (fun v M4 => ∃ r5 : Int, v = some (vI r5) ∧ ShM M4 ∧ 
((r5 = 0 →
(Q (some (vI (-1))) M4)) ∧
(¬ (r5 = 0) →
(Ok G mX9_in d 0 0 [vL a3, vL 0, vL 2] M4 (fun v M7 => ∃ r8 : Int, v = some (vI r8) ∧ ShM M7 ∧ 
((r8 ≠ 0 →
(Wp G mX9_missing (d + 1) 0 0 58 [some (vR 96), some (vI a1), some (vI a2), some (vI a3), some (vI 0), some (vI (-4)), some (vI (-4)), some (vI 0)] [] M7 0 0 Q)) ∧
(r8 = 0 →
(Q (some (vI (-1))) M7)))))))))))))) :
  Wp G mX9_missing (d + 1) 0 0 0 [some (vR 96), some (vI a1), some (vI a2), some (vI a3), none, none, none, none] [] M 0 0 Q := by
  refine wg_iload_n dX9_missing_0 rfl ?_
  refine wg_i2l dX9_missing_1 ?_
  refine wg_lconst dX9_missing_2 rfl ?_
  refine wg_iconst dX9_missing_3 qiconst_1 ?_
  refine wg_aload_n dX9_missing_4 rfl (Nat.succ_ne_zero _) ?_
  refine wg_getI dX9_missing_5 (fl_X9_81 rfl) rfl rfl ?_
  refine wg_ishl dX9_missing_8 ?_
  refine wg_iconst dX9_missing_9 qiconst_1 ?_
  obtain ⟨o, h⟩ := h
  refine wg_isub dX9_missing_10 o ?_
  refine wg_i2l dX9_missing_11 ?_
  refine wg_callS (I' := mX9_in) (np := 3) (d' := d) (as := [vL a1, vL 0, vL ((ishlv 1 (gI M 96 10)) - 1)]) (st := []) dX9_missing_12 lk_X9_100 ci_X9_in rfl rfl (Nat.le_of_ble_eq_true rfl) (Nat.le_refl _) ⟨Nat.le_refl _, Nat.le_refl _⟩ h (fun v M1 h => ?_)
  obtain ⟨r2, rfl, hS, h⟩ := h
  refine wg_if_eq dX9_missing_15 rfl (fun c3 => ?_) (fun c3 => ?_)
  · replace h := h.1 c3
    refine wg_iconst dX9_missing_42 qiconst_m1 ?_
    exact wp_iret rfl dX9_missing_43 ⟨Nat.le_refl _, Nat.le_refl _⟩ h
  · replace h := h.2 c3
    refine wg_iload_n dX9_missing_18 rfl ?_
    refine wg_i2l dX9_missing_19 ?_
    refine wg_lconst dX9_missing_20 rfl ?_
    refine wg_ldc2 dX9_missing_21 kc_X9_252 ⟨by decide, by decide⟩ ?_
    refine wg_callS (I' := mX9_in) (np := 3) (d' := d) (as := [vL a2, vL 0, vL 90]) (st := []) dX9_missing_24 lk_X9_100 ci_X9_in rfl rfl (Nat.le_of_ble_eq_true rfl) (Nat.le_refl _) ⟨Nat.le_refl _, Nat.le_refl _⟩ h (fun v M4 h => ?_)
    obtain ⟨r5, rfl, hS, h⟩ := h
    refine wg_if_eq dX9_missing_27 rfl (fun c6 => ?_) (fun c6 => ?_)
    · replace h := h.1 c6
      refine wg_iconst dX9_missing_42 qiconst_m1 ?_
      exact wp_iret rfl dX9_missing_43 ⟨Nat.le_refl _, Nat.le_refl _⟩ h
    · replace h := h.2 c6
      refine wg_iload_n dX9_missing_30 rfl ?_
      refine wg_i2l dX9_missing_31 ?_
      refine wg_lconst dX9_missing_32 rfl ?_
      refine wg_ldc2 dX9_missing_33 kc_X9_254 ⟨by decide, by decide⟩ ?_
      refine wg_callS (I' := mX9_in) (np := 3) (d' := d) (as := [vL a3, vL 0, vL 2]) (st := []) dX9_missing_36 lk_X9_100 ci_X9_in rfl rfl (Nat.le_of_ble_eq_true rfl) (Nat.le_refl _) ⟨Nat.le_refl _, Nat.le_refl _⟩ h (fun v M7 h => ?_)
      obtain ⟨r8, rfl, hS, h⟩ := h
      refine wg_if_ne dX9_missing_39 rfl (fun c9 => ?_) (fun c9 => ?_)
      · replace h := h.1 c9
        refine wg_iconst dX9_missing_44 qiconst_0 ?_
        refine wg_istore (L' := [some (vR 96), some (vI a1), some (vI a2), some (vI a3), some (vI 0), none, none, none]) dX9_missing_45 (Nat.le_of_ble_eq_true rfl) rfl ?_
        refine wg_bipush dX9_missing_47 qbipush_m4 ?_
        refine wg_istore (L' := [some (vR 96), some (vI a1), some (vI a2), some (vI a3), some (vI 0), some (vI (-4)), none, none]) dX9_missing_49 (Nat.le_of_ble_eq_true rfl) rfl ?_
        refine wg_bipush dX9_missing_51 qbipush_m4 ?_
        refine wg_istore (L' := [some (vR 96), some (vI a1), some (vI a2), some (vI a3), some (vI 0), some (vI (-4)), some (vI (-4)), none]) dX9_missing_53 (Nat.le_of_ble_eq_true rfl) rfl ?_
        refine wg_iconst dX9_missing_55 qiconst_0 ?_
        refine wg_istore (L' := [some (vR 96), some (vI a1), some (vI a2), some (vI a3), some (vI 0), some (vI (-4)), some (vI (-4)), some (vI 0)]) dX9_missing_56 (Nat.le_of_ble_eq_true rfl) rfl ?_
        exact h
      · replace h := h.2 c9
        refine wg_iconst dX9_missing_42 qiconst_m1 ?_
        exact wp_iret rfl dX9_missing_43 ⟨Nat.le_refl _, Nat.le_refl _⟩ h
set_option maxRecDepth 100000 in
theorem bX9_missing_58 {G : GG} {d : Nat} {M : MM} {Q : Option AV → MM → Prop} (a1 : Int) (a2 : Int) (a3 : Int) (s4 : Int) (s5 : Int) (s6 : Int) (s7 : Int) (hS : ShM M) (h :
((ishlv 1 (gI M 96 5)) ≤ s7 →
((a3 ≠ 0 →
(Q (some (vI (if a3 = 1 then (s5 : Int) else s6))) M)) ∧
(a3 = 0 →
(Q (some (vI s4)) M)))) ∧
(¬ ((ishlv 1 (gI M 96 5)) ≤ s7) →
(Ok G mX9_strengthOf d 0 0 [vR 96, vI s7] M (fun v M5 => ∃ r6 : Int, v = some (vI r6) ∧ ShM M5 ∧ 
((r6 < a2 →
(R32 (s7 + 1) ∧
(Wp G mX9_missing (d + 1) 0 0 58 [some (vR 96), some (vI a1), some (vI a2), some (vI a3), some (vI s4), some (vI s5), some (vI s6), some (vI (s7 + 1))] [] M5 0 0 Q))) ∧
(¬ (r6 < a2) →
(Ok G mX9_followsOf d 0 0 [vR 96, vI s7] M5 (fun v M8 => ∃ r9 : Int, v = some (vI r9) ∧ ShM M8 ∧ 
(Ok G mX9_whoMiss d 0 0 [vR 96, vI r9] M8 (fun v M10 => ∃ r11 : Int, v = some (vI r11) ∧ ShM M10 ∧ 
((r11 ≠ a1 →
(R32 (s7 + 1) ∧
(Wp G mX9_missing (d + 1) 0 0 58 [some (vR 96), some (vI a1), some (vI a2), some (vI a3), some (vI s4), some (vI s5), some (vI s6), some (vI (s7 + 1))] [] M10 0 0 Q))) ∧
(r11 = a1 →
(R32 (s4 + 1) ∧
(R32 (s7 + 1) ∧
(Wp G mX9_missing (d + 1) 0 0 58 [some (vR 96), some (vI a1), some (vI a2), some (vI a3), some (vI (s4 + 1)), some (vI (if s4 = 0 then (s7 : Int) else s5)), some (vI (if s4 = 0 then (s7 : Int) else iandv s6 s7)), some (vI (s7 + 1))] [] M10 0 0 Q))))))))))))))) :
  Wp G mX9_missing (d + 1) 0 0 58 [some (vR 96), some (vI a1), some (vI a2), some (vI a3), some (vI s4), some (vI s5), some (vI s6), some (vI s7)] [] M 0 0 Q := by
  refine wg_iload dX9_missing_58 rfl ?_
  refine wg_iconst dX9_missing_60 qiconst_1 ?_
  refine wg_aload_n dX9_missing_61 rfl (Nat.succ_ne_zero _) ?_
  refine wg_getI dX9_missing_62 (fl_X9_74 rfl) rfl rfl ?_
  refine wg_ishl dX9_missing_65 ?_
  refine wg_icmp_ge dX9_missing_66 rfl (fun c1 => ?_) (fun c1 => ?_)
  · replace h := h.1 c1
    refine wg_iload_n dX9_missing_133 rfl ?_
    refine wg_if_ne dX9_missing_134 rfl (fun c2 => ?_) (fun c2 => ?_)
    · replace h := h.1 c2
      refine wg_iload_n dX9_missing_142 rfl ?_
      refine wg_iconst dX9_missing_143 qiconst_1 ?_
      have hJ4 : Wp G mX9_missing (d + 1) 0 0 154 [some (vR 96), some (vI a1), some (vI a2), some (vI a3), some (vI s4), some (vI s5), some (vI s6), some (vI s7)] [vI (if a3 = 1 then (s5 : Int) else s6)] M 0 0 Q := by
        exact wp_iret rfl dX9_missing_154 ⟨Nat.le_refl _, Nat.le_refl _⟩ h
      refine wg_icmp_ne dX9_missing_144 rfl (fun c3 => ?_) (fun c3 => ?_)
      · rw [show (if a3 = 1 then (s5 : Int) else s6) = s6 from if_neg c3] at hJ4
        refine wg_iload dX9_missing_152 rfl ?_
        exact hJ4
      · rw [show (if a3 = 1 then (s5 : Int) else s6) = s5 from if_pos c3] at hJ4
        refine wg_iload dX9_missing_147 rfl ?_
        refine wg_goto dX9_missing_149 rfl ?_
        exact hJ4
    · replace h := h.2 c2
      refine wg_iload dX9_missing_137 rfl ?_
      refine wg_goto dX9_missing_139 rfl ?_
      exact wp_iret rfl dX9_missing_154 ⟨Nat.le_refl _, Nat.le_refl _⟩ h
  · replace h := h.2 c1
    refine wg_aload_n dX9_missing_69 rfl (Nat.succ_ne_zero _) ?_
    refine wg_iload dX9_missing_70 rfl ?_
    refine wg_callV (I' := mX9_strengthOf) (ci := 9) (np := 1) (d' := d) (q := 96) (as := [vI s7]) (st := []) dX9_missing_72 lk_X9_198 ci_X9_strengthOf rfl (Nat.le_of_ble_eq_true rfl) rfl rfl (Nat.le_of_ble_eq_true rfl) rfl (Nat.le_refl _) ⟨Nat.le_refl _, Nat.le_refl _⟩ h (fun v M5 h => ?_)
    obtain ⟨r6, rfl, hS, h⟩ := h
    refine wg_iload_n dX9_missing_75 rfl ?_
    refine wg_icmp_lt dX9_missing_76 rfl (fun c7 => ?_) (fun c7 => ?_)
    · replace h := h.1 c7
      obtain ⟨o, h⟩ := h
      refine wg_iinc (L' := [some (vR 96), some (vI a1), some (vI a2), some (vI a3), some (vI s4), some (vI s5), some (vI s6), some (vI (s7 + 1))]) dX9_missing_127 (Nat.le_of_ble_eq_true rfl) rfl rfl o ?_
      refine wg_goto dX9_missing_130 rfl ?_
      exact h
    · replace h := h.2 c7
      refine wg_aload_n dX9_missing_79 rfl (Nat.succ_ne_zero _) ?_
      refine wg_aload_n dX9_missing_80 rfl (Nat.succ_ne_zero _) ?_
      refine wg_iload dX9_missing_81 rfl ?_
      refine wg_callV (I' := mX9_followsOf) (ci := 9) (np := 1) (d' := d) (q := 96) (as := [vI s7]) (st := [vR 96]) dX9_missing_83 lk_X9_174 ci_X9_followsOf rfl (Nat.le_of_ble_eq_true rfl) rfl rfl (Nat.le_of_ble_eq_true rfl) rfl (Nat.le_refl _) ⟨Nat.le_refl _, Nat.le_refl _⟩ h (fun v M8 h => ?_)
      obtain ⟨r9, rfl, hS, h⟩ := h
      refine wg_callV (I' := mX9_whoMiss) (ci := 9) (np := 1) (d' := d) (q := 96) (as := [vI r9]) (st := []) dX9_missing_86 lk_X9_256 ci_X9_whoMiss rfl (Nat.le_of_ble_eq_true rfl) rfl rfl (Nat.le_of_ble_eq_true rfl) rfl (Nat.le_refl _) ⟨Nat.le_refl _, Nat.le_refl _⟩ h (fun v M10 h => ?_)
      obtain ⟨r11, rfl, hS, h⟩ := h
      refine wg_iload_n dX9_missing_89 rfl ?_
      refine wg_icmp_ne dX9_missing_90 rfl (fun c12 => ?_) (fun c12 => ?_)
      · replace h := h.1 c12
        obtain ⟨o, h⟩ := h
        refine wg_iinc (L' := [some (vR 96), some (vI a1), some (vI a2), some (vI a3), some (vI s4), some (vI s5), some (vI s6), some (vI (s7 + 1))]) dX9_missing_127 (Nat.le_of_ble_eq_true rfl) rfl rfl o ?_
        refine wg_goto dX9_missing_130 rfl ?_
        exact h
      · replace h := h.2 c12
        refine wg_iload dX9_missing_93 rfl ?_
        have hJ16 : Wp G mX9_missing (d + 1) 0 0 105 [some (vR 96), some (vI a1), some (vI a2), some (vI a3), some (vI s4), some (vI s5), some (vI s6), some (vI s7)] [vI (if s4 = 0 then (s7 : Int) else s5)] M10 0 0 Q := by
          refine wg_istore (L' := [some (vR 96), some (vI a1), some (vI a2), some (vI a3), some (vI s4), some (vI (if s4 = 0 then (s7 : Int) else s5)), some (vI s6), some (vI s7)]) dX9_missing_105 (Nat.le_of_ble_eq_true rfl) rfl ?_
          refine wg_iload dX9_missing_107 rfl ?_
          have hJ15 : Wp G mX9_missing (d + 1) 0 0 122 [some (vR 96), some (vI a1), some (vI a2), some (vI a3), some (vI s4), some (vI (if s4 = 0 then (s7 : Int) else s5)), some (vI s6), some (vI s7)] [vI (if s4 = 0 then (s7 : Int) else iandv s6 s7)] M10 0 0 Q := by
            refine wg_istore (L' := [some (vR 96), some (vI a1), some (vI a2), some (vI a3), some (vI s4), some (vI (if s4 = 0 then (s7 : Int) else s5)), some (vI (if s4 = 0 then (s7 : Int) else iandv s6 s7)), some (vI s7)]) dX9_missing_122 (Nat.le_of_ble_eq_true rfl) rfl ?_
            obtain ⟨o, h⟩ := h
            refine wg_iinc (L' := [some (vR 96), some (vI a1), some (vI a2), some (vI a3), some (vI (s4 + 1)), some (vI (if s4 = 0 then (s7 : Int) else s5)), some (vI (if s4 = 0 then (s7 : Int) else iandv s6 s7)), some (vI s7)]) dX9_missing_124 (Nat.le_of_ble_eq_true rfl) rfl rfl o ?_
            obtain ⟨o, h⟩ := h
            refine wg_iinc (L' := [some (vR 96), some (vI a1), some (vI a2), some (vI a3), some (vI (s4 + 1)), some (vI (if s4 = 0 then (s7 : Int) else s5)), some (vI (if s4 = 0 then (s7 : Int) else iandv s6 s7)), some (vI (s7 + 1))]) dX9_missing_127 (Nat.le_of_ble_eq_true rfl) rfl rfl o ?_
            refine wg_goto dX9_missing_130 rfl ?_
            exact h
          refine wg_if_ne dX9_missing_109 rfl (fun c14 => ?_) (fun c14 => ?_)
          · rw [show (if s4 = 0 then (s7 : Int) else iandv s6 s7) = iandv s6 s7 from if_neg c14] at hJ15
            refine wg_iload dX9_missing_117 rfl ?_
            refine wg_iload dX9_missing_119 rfl ?_
            refine wg_iand dX9_missing_121 ?_
            exact hJ15
          · rw [show (if s4 = 0 then (s7 : Int) else iandv s6 s7) = s7 from if_pos c14] at hJ15
            refine wg_iload dX9_missing_112 rfl ?_
            refine wg_goto dX9_missing_114 rfl ?_
            exact hJ15
        refine wg_if_ne dX9_missing_95 rfl (fun c13 => ?_) (fun c13 => ?_)
        · rw [show (if s4 = 0 then (s7 : Int) else s5) = s5 from if_neg c13] at hJ16
          refine wg_iload dX9_missing_103 rfl ?_
          exact hJ16
        · rw [show (if s4 = 0 then (s7 : Int) else s5) = s7 from if_pos c13] at hJ16
          refine wg_iload dX9_missing_98 rfl ?_
          refine wg_goto dX9_missing_100 rfl ?_
          exact hJ16
set_option maxRecDepth 100000 in
theorem bX9_divisor_0 {G : GG} {d : Nat} {M : MM} {Q : Option AV → MM → Prop} (a0 : Int) (a2 : Int) (h :
Wp G mX9_divisor d 0 0 6 [none, none, none, none, some (vL a0), none, some (vL a2), none, none, none] [] M 0 0 Q) :
  Wp G mX9_divisor d 0 0 0 [some (vL a0), none, some (vL a2), none, none, none, none, none, none, none] [] M 0 0 Q := by
  refine wg_lload_n dX9_divisor_0 rfl ?_
  refine wg_lstore (L' := [some (vL a0), none, some (vL a2), none, some (vL a0), none, none, none, none, none]) dX9_divisor_1 (Nat.le_of_ble_eq_true rfl) rfl ?_
  refine wg_lload_n dX9_divisor_3 rfl ?_
  refine wg_lstore (L' := [some (vL a0), none, some (vL a2), none, some (vL a0), none, some (vL a2), none, none, none]) dX9_divisor_4 (Nat.le_of_ble_eq_true rfl) rfl ?_
  refine wg_weak [false, false, false, false, true, false, true, false, false, false] rfl ?_
  exact h
set_option maxRecDepth 100000 in
theorem bX9_divisor_6 {G : GG} {d : Nat} {M : MM} {Q : Option AV → MM → Prop} (s4 : Int) (s6 : Int) (h :
(s6 = 0 →
(Q (some (vL s4)) M)) ∧
(¬ (s6 = 0) →
(s6 ≠ 0 ∧
(Wp G mX9_divisor d 0 0 6 [none, none, none, none, some (vL s6), none, some (vL (Int.tmod s4 s6)), none, none, none] [] M 0 0 Q)))) :
  Wp G mX9_divisor d 0 0 6 [none, none, none, none, some (vL s4), none, some (vL s6), none, none, none] [] M 0 0 Q := by
  refine wg_lload dX9_divisor_6 rfl ?_
  refine wg_lconst dX9_divisor_8 rfl ?_
  refine wg_lcmp dX9_divisor_9 ?_
  refine wg_if_eq dX9_divisor_10 rfl (fun c1 => ?_) (fun c1 => ?_)
  · replace c1 := lcmp_eq.mp c1
    replace h := h.1 c1
    refine wg_lload dX9_divisor_31 rfl ?_
    exact wp_lret rfl dX9_divisor_33 ⟨Nat.le_refl _, Nat.le_refl _⟩ h
  · replace c1 := (not_congr lcmp_eq).mp c1
    replace h := h.2 c1
    refine wg_lload dX9_divisor_13 rfl ?_
    refine wg_lload dX9_divisor_15 rfl ?_
    obtain ⟨o1, h⟩ := h
    refine wg_lrem dX9_divisor_17 o1 ?_
    refine wg_lstore (L' := [none, none, none, none, some (vL s4), none, some (vL s6), none, some (vL (Int.tmod s4 s6)), none]) dX9_divisor_18 (Nat.le_of_ble_eq_true rfl) rfl ?_
    refine wg_lload dX9_divisor_20 rfl ?_
    refine wg_lstore (L' := [none, none, none, none, some (vL s6), none, some (vL s6), none, some (vL (Int.tmod s4 s6)), none]) dX9_divisor_22 (Nat.le_of_ble_eq_true rfl) rfl ?_
    refine wg_lload dX9_divisor_24 rfl ?_
    refine wg_lstore (L' := [none, none, none, none, some (vL s6), none, some (vL (Int.tmod s4 s6)), none, some (vL (Int.tmod s4 s6)), none]) dX9_divisor_26 (Nat.le_of_ble_eq_true rfl) rfl ?_
    refine wg_goto dX9_divisor_28 rfl ?_
    refine wg_weak [false, false, false, false, true, false, true, false, false, false] rfl ?_
    exact h
set_option maxRecDepth 100000 in
theorem bX9_power_0 {G : GG} {d : Nat} {M : MM} {Q : Option AV → MM → Prop} (a0 : Int) (a2 : Int) (h :
Wp G mX9_power d 0 0 5 [some (vL a0), none, some (vI a2), some (vL 1), none, some (vI 0)] [] M 0 0 Q) :
  Wp G mX9_power d 0 0 0 [some (vL a0), none, some (vI a2), none, none, none] [] M 0 0 Q := by
  refine wg_lconst dX9_power_0 rfl ?_
  refine wg_lstore_n (L' := [some (vL a0), none, some (vI a2), some (vL 1), none, none]) dX9_power_1 (Nat.le_of_ble_eq_true rfl) rfl ?_
  refine wg_iconst dX9_power_2 qiconst_0 ?_
  refine wg_istore (L' := [some (vL a0), none, some (vI a2), some (vL 1), none, some (vI 0)]) dX9_power_3 (Nat.le_of_ble_eq_true rfl) rfl ?_
  exact h
set_option maxRecDepth 100000 in
theorem bX9_power_5 {G : GG} {d : Nat} {M : MM} {Q : Option AV → MM → Prop} (a0 : Int) (a2 : Int) (s3 : Int) (s5 : Int) (h :
(a2 ≤ s5 →
(Q (some (vL s3)) M)) ∧
(¬ (a2 ≤ s5) →
(R64 (s3 * a0) ∧
(R32 (s5 + 1) ∧
(Wp G mX9_power d 0 0 5 [some (vL a0), none, some (vI a2), some (vL (s3 * a0)), none, some (vI (s5 + 1))] [] M 0 0 Q))))) :
  Wp G mX9_power d 0 0 5 [some (vL a0), none, some (vI a2), some (vL s3), none, some (vI s5)] [] M 0 0 Q := by
  refine wg_iload dX9_power_5 rfl ?_
  refine wg_iload_n dX9_power_7 rfl ?_
  refine wg_icmp_ge dX9_power_8 rfl (fun c1 => ?_) (fun c1 => ?_)
  · replace h := h.1 c1
    refine wg_lload_n dX9_power_21 rfl ?_
    exact wp_lret rfl dX9_power_22 ⟨Nat.le_refl _, Nat.le_refl _⟩ h
  · replace h := h.2 c1
    refine wg_lload_n dX9_power_11 rfl ?_
    refine wg_lload_n dX9_power_12 rfl ?_
    obtain ⟨o, h⟩ := h
    refine wg_lmul dX9_power_13 o ?_
    refine wg_lstore_n (L' := [some (vL a0), none, some (vI a2), some (vL (s3 * a0)), none, some (vI s5)]) dX9_power_14 (Nat.le_of_ble_eq_true rfl) rfl ?_
    obtain ⟨o, h⟩ := h
    refine wg_iinc (L' := [some (vL a0), none, some (vI a2), some (vL (s3 * a0)), none, some (vI (s5 + 1))]) dX9_power_15 (Nat.le_of_ble_eq_true rfl) rfl rfl o ?_
    refine wg_goto dX9_power_18 rfl ?_
    exact h
set_option maxRecDepth 100000 in
theorem bX9_trial_0 {G : GG} {d : Nat} {M : MM} {Q : Option AV → MM → Prop} (a1 : Int) (a2 : Int) (a3 : Int) (a4 : Int) (hS : ShM M) (h :
Ok G mX9_in d 0 0 [vL a1, vL 0, vL 10] M (fun v M1 => ∃ r2 : Int, v = some (vI r2) ∧ ShM M1 ∧ 
((r2 = 0 →
(Q (some (vL (-1))) M1)) ∧
(¬ (r2 = 0) →
(Ok G mX9_in d 0 0 [vL a2, vL 0, vL 10] M1 (fun v M4 => ∃ r5 : Int, v = some (vI r5) ∧ ShM M4 ∧ 
((r5 = 0 →
(Q (some (vL (-1))) M4)) ∧
(¬ (r5 = 0) →
(Ok G mX9_in d 0 0 [vL a3, vL 0, vL 6] M4 (fun v M7 => ∃ r8 : Int, v = some (vI r8) ∧ ShM M7 ∧ 
((r8 = 0 →
(Q (some (vL (-1))) M7)) ∧
(¬ (r8 = 0) →
(Ok G mX9_in d 0 0 [vL a4, vL 0, vL 1] M7 (fun v M10 => ∃ r11 : Int, v = some (vI r11) ∧ ShM M10 ∧ 
((r11 ≠ 0 →
(Ok G mX9_power d 0 0 [vL 10, vI a3] M10 (fun v M13 => ∃ r14 : Int, v = some (vL r14) ∧ ShM M13 ∧ 
(R64 (a1 * r14) ∧
(R32 (10 - a1) ∧
(R64 (10 - a2) ∧
(Ok G mX9_power d 0 0 [vL (10 - a2), vI a3] M13 (fun v M15 => ∃ r16 : Int, v = some (vL r16) ∧ ShM M15 ∧ 
(R64 ((10 - a1) * r16) ∧
(R64 ((a1 * r14) + ((10 - a1) * r16)) ∧
((((a1 * r14) + ((10 - a1) * r16)) ≠ 0 →
(Ok G mX9_divisor d 0 0 [vL (a1 * r14), vL ((a1 * r14) + ((10 - a1) * r16))] M15 (fun v M18 => ∃ r19 : Int, v = some (vL r19) ∧ ShM M18 ∧ 
((a4 ≠ 0 →
(r19 ≠ 0 ∧
R64 (Int.tdiv ((a1 * r14) + ((10 - a1) * r16)) r19) ∧
(Q (some (vL (Int.tdiv ((a1 * r14) + ((10 - a1) * r16)) r19))) M18))) ∧
(a4 = 0 →
(r19 ≠ 0 ∧
R64 (Int.tdiv (a1 * r14) r19) ∧
(Q (some (vL (Int.tdiv (a1 * r14) r19))) M18))))))) ∧
(((a1 * r14) + ((10 - a1) * r16)) = 0 →
(Q (some (vL (-4))) M15))))))))))))) ∧
(r11 = 0 →
(Q (some (vL (-1))) M10))))))))))))))))) :
  Wp G mX9_trial (d + 1) 0 0 0 [some (vR 96), some (vI a1), some (vI a2), some (vI a3), some (vI a4), none, none, none, none, none, none] [] M 0 0 Q := by
  refine wg_iload_n dX9_trial_0 rfl ?_
  refine wg_i2l dX9_trial_1 ?_
  refine wg_lconst dX9_trial_2 rfl ?_
  refine wg_ldc2 dX9_trial_3 kc_X9_259 ⟨by decide, by decide⟩ ?_
  refine wg_callS (I' := mX9_in) (np := 3) (d' := d) (as := [vL a1, vL 0, vL 10]) (st := []) dX9_trial_6 lk_X9_100 ci_X9_in rfl rfl (Nat.le_of_ble_eq_true rfl) (Nat.le_refl _) ⟨Nat.le_refl _, Nat.le_refl _⟩ h (fun v M1 h => ?_)
  obtain ⟨r2, rfl, hS, h⟩ := h
  refine wg_if_eq dX9_trial_9 rfl (fun c3 => ?_) (fun c3 => ?_)
  · replace h := h.1 c3
    refine wg_ldc2 dX9_trial_47 kc_X9_263 ⟨by decide, by decide⟩ ?_
    exact wp_lret rfl dX9_trial_50 ⟨Nat.le_refl _, Nat.le_refl _⟩ h
  · replace h := h.2 c3
    refine wg_iload_n dX9_trial_12 rfl ?_
    refine wg_i2l dX9_trial_13 ?_
    refine wg_lconst dX9_trial_14 rfl ?_
    refine wg_ldc2 dX9_trial_15 kc_X9_259 ⟨by decide, by decide⟩ ?_
    refine wg_callS (I' := mX9_in) (np := 3) (d' := d) (as := [vL a2, vL 0, vL 10]) (st := []) dX9_trial_18 lk_X9_100 ci_X9_in rfl rfl (Nat.le_of_ble_eq_true rfl) (Nat.le_refl _) ⟨Nat.le_refl _, Nat.le_refl _⟩ h (fun v M4 h => ?_)
    obtain ⟨r5, rfl, hS, h⟩ := h
    refine wg_if_eq dX9_trial_21 rfl (fun c6 => ?_) (fun c6 => ?_)
    · replace h := h.1 c6
      refine wg_ldc2 dX9_trial_47 kc_X9_263 ⟨by decide, by decide⟩ ?_
      exact wp_lret rfl dX9_trial_50 ⟨Nat.le_refl _, Nat.le_refl _⟩ h
    · replace h := h.2 c6
      refine wg_iload_n dX9_trial_24 rfl ?_
      refine wg_i2l dX9_trial_25 ?_
      refine wg_lconst dX9_trial_26 rfl ?_
      refine wg_ldc2 dX9_trial_27 kc_X9_261 ⟨by decide, by decide⟩ ?_
      refine wg_callS (I' := mX9_in) (np := 3) (d' := d) (as := [vL a3, vL 0, vL 6]) (st := []) dX9_trial_30 lk_X9_100 ci_X9_in rfl rfl (Nat.le_of_ble_eq_true rfl) (Nat.le_refl _) ⟨Nat.le_refl _, Nat.le_refl _⟩ h (fun v M7 h => ?_)
      obtain ⟨r8, rfl, hS, h⟩ := h
      refine wg_if_eq dX9_trial_33 rfl (fun c9 => ?_) (fun c9 => ?_)
      · replace h := h.1 c9
        refine wg_ldc2 dX9_trial_47 kc_X9_263 ⟨by decide, by decide⟩ ?_
        exact wp_lret rfl dX9_trial_50 ⟨Nat.le_refl _, Nat.le_refl _⟩ h
      · replace h := h.2 c9
        refine wg_iload dX9_trial_36 rfl ?_
        refine wg_i2l dX9_trial_38 ?_
        refine wg_lconst dX9_trial_39 rfl ?_
        refine wg_lconst dX9_trial_40 rfl ?_
        refine wg_callS (I' := mX9_in) (np := 3) (d' := d) (as := [vL a4, vL 0, vL 1]) (st := []) dX9_trial_41 lk_X9_100 ci_X9_in rfl rfl (Nat.le_of_ble_eq_true rfl) (Nat.le_refl _) ⟨Nat.le_refl _, Nat.le_refl _⟩ h (fun v M10 h => ?_)
        obtain ⟨r11, rfl, hS, h⟩ := h
        refine wg_if_ne dX9_trial_44 rfl (fun c12 => ?_) (fun c12 => ?_)
        · replace h := h.1 c12
          refine wg_iload_n dX9_trial_51 rfl ?_
          refine wg_i2l dX9_trial_52 ?_
          refine wg_ldc2 dX9_trial_53 kc_X9_259 ⟨by decide, by decide⟩ ?_
          refine wg_iload_n dX9_trial_56 rfl ?_
          refine wg_callS (I' := mX9_power) (np := 2) (d' := d) (as := [vL 10, vI a3]) (st := [vL a1]) dX9_trial_57 lk_X9_265 ci_X9_power rfl rfl (Nat.le_of_ble_eq_true rfl) (Nat.le_refl _) ⟨Nat.le_refl _, Nat.le_refl _⟩ h (fun v M13 h => ?_)
          obtain ⟨r14, rfl, hS, h⟩ := h
          obtain ⟨o, h⟩ := h
          refine wg_lmul dX9_trial_60 o ?_
          refine wg_lstore (L' := [some (vR 96), some (vI a1), some (vI a2), some (vI a3), some (vI a4), some (vL (a1 * r14)), none, none, none, none, none]) dX9_trial_61 (Nat.le_of_ble_eq_true rfl) rfl ?_
          refine wg_lload dX9_trial_63 rfl ?_
          refine wg_bipush dX9_trial_65 qbipush_10 ?_
          refine wg_iload_n dX9_trial_67 rfl ?_
          obtain ⟨o, h⟩ := h
          refine wg_isub dX9_trial_68 o ?_
          refine wg_i2l dX9_trial_69 ?_
          refine wg_ldc2 dX9_trial_70 kc_X9_259 ⟨by decide, by decide⟩ ?_
          refine wg_iload_n dX9_trial_73 rfl ?_
          refine wg_i2l dX9_trial_74 ?_
          obtain ⟨o, h⟩ := h
          refine wg_lsub dX9_trial_75 o ?_
          refine wg_iload_n dX9_trial_76 rfl ?_
          refine wg_callS (I' := mX9_power) (np := 2) (d' := d) (as := [vL (10 - a2), vI a3]) (st := [vL (10 - a1), vL (a1 * r14)]) dX9_trial_77 lk_X9_265 ci_X9_power rfl rfl (Nat.le_of_ble_eq_true rfl) (Nat.le_refl _) ⟨Nat.le_refl _, Nat.le_refl _⟩ h (fun v M15 h => ?_)
          obtain ⟨r16, rfl, hS, h⟩ := h
          obtain ⟨o, h⟩ := h
          refine wg_lmul dX9_trial_80 o ?_
          obtain ⟨o, h⟩ := h
          refine wg_ladd dX9_trial_81 o ?_
          refine wg_lstore (L' := [some (vR 96), some (vI a1), some (vI a2), some (vI a3), some (vI a4), some (vL (a1 * r14)), none, some (vL ((a1 * r14) + ((10 - a1) * r16))), none, none, none]) dX9_trial_82 (Nat.le_of_ble_eq_true rfl) rfl ?_
          refine wg_lload dX9_trial_84 rfl ?_
          refine wg_lconst dX9_trial_86 rfl ?_
          refine wg_lcmp dX9_trial_87 ?_
          refine wg_if_ne dX9_trial_88 rfl (fun c17 => ?_) (fun c17 => ?_)
          · replace c17 := lcmp_ne.mp c17
            replace h := h.1 c17
            refine wg_lload dX9_trial_95 rfl ?_
            refine wg_lload dX9_trial_97 rfl ?_
            refine wg_callS (I' := mX9_divisor) (np := 2) (d' := d) (as := [vL (a1 * r14), vL ((a1 * r14) + ((10 - a1) * r16))]) (st := []) dX9_trial_99 lk_X9_271 ci_X9_divisor rfl rfl (Nat.le_of_ble_eq_true rfl) (Nat.le_refl _) ⟨Nat.le_refl _, Nat.le_refl _⟩ h (fun v M18 h => ?_)
            obtain ⟨r19, rfl, hS, h⟩ := h
            refine wg_lstore (L' := [some (vR 96), some (vI a1), some (vI a2), some (vI a3), some (vI a4), some (vL (a1 * r14)), none, some (vL ((a1 * r14) + ((10 - a1) * r16))), none, some (vL r19), none]) dX9_trial_102 (Nat.le_of_ble_eq_true rfl) rfl ?_
            refine wg_iload dX9_trial_104 rfl ?_
            refine wg_if_ne dX9_trial_106 rfl (fun c20 => ?_) (fun c20 => ?_)
            · replace h := h.1 c20
              refine wg_lload dX9_trial_117 rfl ?_
              refine wg_lload dX9_trial_119 rfl ?_
              obtain ⟨o1, h⟩ := h
              obtain ⟨o, h⟩ := h
              refine wg_ldiv dX9_trial_121 o1 o ?_
              exact wp_lret rfl dX9_trial_122 ⟨Nat.le_refl _, Nat.le_refl _⟩ h
            · replace h := h.2 c20
              refine wg_lload dX9_trial_109 rfl ?_
              refine wg_lload dX9_trial_111 rfl ?_
              obtain ⟨o1, h⟩ := h
              obtain ⟨o, h⟩ := h
              refine wg_ldiv dX9_trial_113 o1 o ?_
              refine wg_goto dX9_trial_114 rfl ?_
              exact wp_lret rfl dX9_trial_122 ⟨Nat.le_refl _, Nat.le_refl _⟩ h
          · replace c17 := lcmp_eq.mp c17
            replace h := h.2 c17
            refine wg_ldc2 dX9_trial_91 kc_X9_269 ⟨by decide, by decide⟩ ?_
            exact wp_lret rfl dX9_trial_94 ⟨Nat.le_refl _, Nat.le_refl _⟩ h
        · replace h := h.2 c12
          refine wg_ldc2 dX9_trial_47 kc_X9_263 ⟨by decide, by decide⟩ ?_
          exact wp_lret rfl dX9_trial_50 ⟨Nat.le_refl _, Nat.le_refl _⟩ h
set_option maxRecDepth 100000 in
theorem bX9_losesBy_0 {G : GG} {d : Nat} {M : MM} {Q : Option AV → MM → Prop} (a1 : Int) (a2 : Int) (hS : ShM M) (h :
(a1 ≠ a2 →
(((0 : Int) ≤ a1 ∧ (a1 : Int) < 8) ∧
(Q (some (vI (gI M 103 a1.toNat))) M))) ∧
(a1 = a2 →
(((0 : Int) ≤ a1 ∧ (a1 : Int) < 8) ∧
(R32 (3 * (gI M 103 a1.toNat)) ∧
(Q (some (vI (3 * (gI M 103 a1.toNat)))) M))))) :
  Wp G mX9_losesBy d 0 0 0 [some (vR 96), some (vI a1), some (vI a2)] [] M 0 0 Q := by
  refine wg_iload_n dX9_losesBy_0 rfl ?_
  refine wg_iload_n dX9_losesBy_1 rfl ?_
  refine wg_icmp_ne dX9_losesBy_2 rfl (fun c1 => ?_) (fun c1 => ?_)
  · replace h := h.1 c1
    refine wg_aload_n dX9_losesBy_16 rfl (Nat.succ_ne_zero _) ?_
    refine wg_getRe dX9_losesBy_17 (fl_X9_28 rfl) rfl rfl (sm12 hS) ?_
    refine wg_iload_n dX9_losesBy_20 rfl ?_
    obtain ⟨o2, h⟩ := h
    refine wg_iald dX9_losesBy_21 rfl o2.1 o2.2 ?_
    exact wp_iret rfl dX9_losesBy_22 ⟨Nat.le_refl _, Nat.le_refl _⟩ h
  · replace h := h.2 c1
    refine wg_iconst dX9_losesBy_5 qiconst_3 ?_
    refine wg_aload_n dX9_losesBy_6 rfl (Nat.succ_ne_zero _) ?_
    refine wg_getRe dX9_losesBy_7 (fl_X9_28 rfl) rfl rfl (sm12 hS) ?_
    refine wg_iload_n dX9_losesBy_10 rfl ?_
    obtain ⟨o3, h⟩ := h
    refine wg_iald dX9_losesBy_11 rfl o3.1 o3.2 ?_
    obtain ⟨o, h⟩ := h
    refine wg_imul dX9_losesBy_12 o ?_
    refine wg_goto dX9_losesBy_13 rfl ?_
    exact wp_iret rfl dX9_losesBy_22 ⟨Nat.le_refl _, Nat.le_refl _⟩ h
set_option maxRecDepth 100000 in
theorem bX9_rests_0 {G : GG} {d : Nat} {M : MM} {Q : Option AV → MM → Prop} (a1 : Int) (a2 : Int) (hS : ShM M) (h :
Wp G mX9_rests (d + 1) 0 0 5 [some (vR 96), some (vI a1), some (vI a2), some (vI 1), some (vI 0)] [] M 0 0 Q) :
  Wp G mX9_rests (d + 1) 0 0 0 [some (vR 96), some (vI a1), some (vI a2), none, none] [] M 0 0 Q := by
  refine wg_iconst dX9_rests_0 qiconst_1 ?_
  refine wg_istore_n (L' := [some (vR 96), some (vI a1), some (vI a2), some (vI 1), none]) dX9_rests_1 (Nat.le_of_ble_eq_true rfl) rfl ?_
  refine wg_iconst dX9_rests_2 qiconst_0 ?_
  refine wg_istore (L' := [some (vR 96), some (vI a1), some (vI a2), some (vI 1), some (vI 0)]) dX9_rests_3 (Nat.le_of_ble_eq_true rfl) rfl ?_
  exact h
set_option maxRecDepth 100000 in
theorem bX9_rests_5 {G : GG} {d : Nat} {M : MM} {Q : Option AV → MM → Prop} (a1 : Int) (a2 : Int) (s3 : Int) (s4 : Int) (hS : ShM M) (h :
((gI M 96 10) ≤ s4 →
((s3 = 0 ∨ s3 = 1) ∧ Q (some (vI s3)) M)) ∧
(¬ ((gI M 96 10) ≤ s4) →
((s3 = 0 →
(R32 (s4 + 1) ∧
(Wp G mX9_rests (d + 1) 0 0 5 [some (vR 96), some (vI a1), some (vI a2), some (vI 0), some (vI (s4 + 1))] [] M 0 0 Q))) ∧
(¬ (s3 = 0) →
(Ok G mX9_losesBy d 0 0 [vR 96, vI s4, vI a2] M (fun v M3 => ∃ r4 : Int, v = some (vI r4) ∧ ShM M3 ∧ 
(Ok G mX9_losesBy d 0 0 [vR 96, vI a1, vI a2] M3 (fun v M5 => ∃ r6 : Int, v = some (vI r6) ∧ ShM M5 ∧ 
((r4 < r6 →
(R32 (s4 + 1) ∧
(Wp G mX9_rests (d + 1) 0 0 5 [some (vR 96), some (vI a1), some (vI a2), some (vI 0), some (vI (s4 + 1))] [] M5 0 0 Q))) ∧
(¬ (r4 < r6) →
(Ok G mX9_losesBy d 0 0 [vR 96, vI a1, vI s4] M5 (fun v M8 => ∃ r9 : Int, v = some (vI r9) ∧ ShM M8 ∧ 
(Ok G mX9_losesBy d 0 0 [vR 96, vI a1, vI a2] M8 (fun v M10 => ∃ r11 : Int, v = some (vI r11) ∧ ShM M10 ∧ 
(R32 (s4 + 1) ∧
(Wp G mX9_rests (d + 1) 0 0 5 [some (vR 96), some (vI a1), some (vI a2), some (vI (if r11 < r9 then (0 : Int) else 1)), some (vI (s4 + 1))] [] M10 0 0 Q)))))))))))))))) :
  Wp G mX9_rests (d + 1) 0 0 5 [some (vR 96), some (vI a1), some (vI a2), some (vI s3), some (vI s4)] [] M 0 0 Q := by
  refine wg_iload dX9_rests_5 rfl ?_
  refine wg_aload_n dX9_rests_7 rfl (Nat.succ_ne_zero _) ?_
  refine wg_getI dX9_rests_8 (fl_X9_81 rfl) rfl rfl ?_
  refine wg_icmp_ge dX9_rests_11 rfl (fun c1 => ?_) (fun c1 => ?_)
  · replace h := h.1 c1
    refine wg_iload_n dX9_rests_62 rfl ?_
    obtain ⟨o, h⟩ := h
    exact wp_zret rfl dX9_rests_63 ⟨Nat.le_refl _, Nat.le_refl _⟩ o h
  · replace h := h.2 c1
    refine wg_iload_n dX9_rests_14 rfl ?_
    refine wg_if_eq dX9_rests_15 rfl (fun c2 => ?_) (fun c2 => ?_)
    · replace h := h.1 c2
      refine wg_iconst dX9_rests_54 qiconst_0 ?_
      refine wg_istore_n (L' := [some (vR 96), some (vI a1), some (vI a2), some (vI 0), some (vI s4)]) dX9_rests_55 (Nat.le_of_ble_eq_true rfl) rfl ?_
      obtain ⟨o, h⟩ := h
      refine wg_iinc (L' := [some (vR 96), some (vI a1), some (vI a2), some (vI 0), some (vI (s4 + 1))]) dX9_rests_56 (Nat.le_of_ble_eq_true rfl) rfl rfl o ?_
      refine wg_goto dX9_rests_59 rfl ?_
      exact h
    · replace h := h.2 c2
      refine wg_aload_n dX9_rests_18 rfl (Nat.succ_ne_zero _) ?_
      refine wg_iload dX9_rests_19 rfl ?_
      refine wg_iload_n dX9_rests_21 rfl ?_
      refine wg_callV (I' := mX9_losesBy) (ci := 9) (np := 2) (d' := d) (q := 96) (as := [vI s4, vI a2]) (st := []) dX9_rests_22 lk_X9_275 ci_X9_losesBy rfl (Nat.le_of_ble_eq_true rfl) rfl rfl (Nat.le_of_ble_eq_true rfl) rfl (Nat.le_refl _) ⟨Nat.le_refl _, Nat.le_refl _⟩ h (fun v M3 h => ?_)
      obtain ⟨r4, rfl, hS, h⟩ := h
      refine wg_aload_n dX9_rests_25 rfl (Nat.succ_ne_zero _) ?_
      refine wg_iload_n dX9_rests_26 rfl ?_
      refine wg_iload_n dX9_rests_27 rfl ?_
      refine wg_callV (I' := mX9_losesBy) (ci := 9) (np := 2) (d' := d) (q := 96) (as := [vI a1, vI a2]) (st := [vI r4]) dX9_rests_28 lk_X9_275 ci_X9_losesBy rfl (Nat.le_of_ble_eq_true rfl) rfl rfl (Nat.le_of_ble_eq_true rfl) rfl (Nat.le_refl _) ⟨Nat.le_refl _, Nat.le_refl _⟩ h (fun v M5 h => ?_)
      obtain ⟨r6, rfl, hS, h⟩ := h
      refine wg_icmp_lt dX9_rests_31 rfl (fun c7 => ?_) (fun c7 => ?_)
      · replace h := h.1 c7
        refine wg_iconst dX9_rests_54 qiconst_0 ?_
        refine wg_istore_n (L' := [some (vR 96), some (vI a1), some (vI a2), some (vI 0), some (vI s4)]) dX9_rests_55 (Nat.le_of_ble_eq_true rfl) rfl ?_
        obtain ⟨o, h⟩ := h
        refine wg_iinc (L' := [some (vR 96), some (vI a1), some (vI a2), some (vI 0), some (vI (s4 + 1))]) dX9_rests_56 (Nat.le_of_ble_eq_true rfl) rfl rfl o ?_
        refine wg_goto dX9_rests_59 rfl ?_
        exact h
      · replace h := h.2 c7
        refine wg_aload_n dX9_rests_34 rfl (Nat.succ_ne_zero _) ?_
        refine wg_iload_n dX9_rests_35 rfl ?_
        refine wg_iload dX9_rests_36 rfl ?_
        refine wg_callV (I' := mX9_losesBy) (ci := 9) (np := 2) (d' := d) (q := 96) (as := [vI a1, vI s4]) (st := []) dX9_rests_38 lk_X9_275 ci_X9_losesBy rfl (Nat.le_of_ble_eq_true rfl) rfl rfl (Nat.le_of_ble_eq_true rfl) rfl (Nat.le_refl _) ⟨Nat.le_refl _, Nat.le_refl _⟩ h (fun v M8 h => ?_)
        obtain ⟨r9, rfl, hS, h⟩ := h
        refine wg_aload_n dX9_rests_41 rfl (Nat.succ_ne_zero _) ?_
        refine wg_iload_n dX9_rests_42 rfl ?_
        refine wg_iload_n dX9_rests_43 rfl ?_
        refine wg_callV (I' := mX9_losesBy) (ci := 9) (np := 2) (d' := d) (q := 96) (as := [vI a1, vI a2]) (st := [vI r9]) dX9_rests_44 lk_X9_275 ci_X9_losesBy rfl (Nat.le_of_ble_eq_true rfl) rfl rfl (Nat.le_of_ble_eq_true rfl) rfl (Nat.le_refl _) ⟨Nat.le_refl _, Nat.le_refl _⟩ h (fun v M10 h => ?_)
        obtain ⟨r11, rfl, hS, h⟩ := h
        have hJ13 : Wp G mX9_rests (d + 1) 0 0 55 [some (vR 96), some (vI a1), some (vI a2), some (vI s3), some (vI s4)] [vI (if r11 < r9 then (0 : Int) else 1)] M10 0 0 Q := by
          refine wg_istore_n (L' := [some (vR 96), some (vI a1), some (vI a2), some (vI (if r11 < r9 then (0 : Int) else 1)), some (vI s4)]) dX9_rests_55 (Nat.le_of_ble_eq_true rfl) rfl ?_
          obtain ⟨o, h⟩ := h
          refine wg_iinc (L' := [some (vR 96), some (vI a1), some (vI a2), some (vI (if r11 < r9 then (0 : Int) else 1)), some (vI (s4 + 1))]) dX9_rests_56 (Nat.le_of_ble_eq_true rfl) rfl rfl o ?_
          refine wg_goto dX9_rests_59 rfl ?_
          exact h
        refine wg_icmp_gt dX9_rests_47 rfl (fun c12 => ?_) (fun c12 => ?_)
        · rw [show (if r11 < r9 then (0 : Int) else 1) = 0 from if_pos c12] at hJ13
          refine wg_iconst dX9_rests_54 qiconst_0 ?_
          exact hJ13
        · rw [show (if r11 < r9 then (0 : Int) else 1) = 1 from if_neg c12] at hJ13
          refine wg_iconst dX9_rests_50 qiconst_1 ?_
          refine wg_goto dX9_rests_51 rfl ?_
          exact hJ13
set_option maxRecDepth 100000 in
theorem bX9_pledge_0 {G : GG} {d : Nat} {M : MM} {Q : Option AV → MM → Prop} (a1 : Int) (hS : ShM M) (h :
Ok G mX9_in d 0 0 [vL a1, vL 0, vL 1] M (fun v M1 => ∃ r2 : Int, v = some (vI r2) ∧ ShM M1 ∧ 
((r2 ≠ 0 →
(Wp G mX9_pledge (d + 1) 0 0 20 [some (vR 96), some (vI a1), some (vI 0), some (vI (-4)), some (vI 0), none, none] [] M1 0 0 Q)) ∧
(r2 = 0 →
(Q (some (vI (-1))) M1))))) :
  Wp G mX9_pledge (d + 1) 0 0 0 [some (vR 96), some (vI a1), none, none, none, none, none] [] M 0 0 Q := by
  refine wg_iload_n dX9_pledge_0 rfl ?_
  refine wg_i2l dX9_pledge_1 ?_
  refine wg_lconst dX9_pledge_2 rfl ?_
  refine wg_lconst dX9_pledge_3 rfl ?_
  refine wg_callS (I' := mX9_in) (np := 3) (d' := d) (as := [vL a1, vL 0, vL 1]) (st := []) dX9_pledge_4 lk_X9_100 ci_X9_in rfl rfl (Nat.le_of_ble_eq_true rfl) (Nat.le_refl _) ⟨Nat.le_refl _, Nat.le_refl _⟩ h (fun v M1 h => ?_)
  obtain ⟨r2, rfl, hS, h⟩ := h
  refine wg_if_ne dX9_pledge_7 rfl (fun c3 => ?_) (fun c3 => ?_)
  · replace h := h.1 c3
    refine wg_iconst dX9_pledge_12 qiconst_0 ?_
    refine wg_istore_n (L' := [some (vR 96), some (vI a1), some (vI 0), none, none, none, none]) dX9_pledge_13 (Nat.le_of_ble_eq_true rfl) rfl ?_
    refine wg_bipush dX9_pledge_14 qbipush_m4 ?_
    refine wg_istore_n (L' := [some (vR 96), some (vI a1), some (vI 0), some (vI (-4)), none, none, none]) dX9_pledge_16 (Nat.le_of_ble_eq_true rfl) rfl ?_
    refine wg_iconst dX9_pledge_17 qiconst_0 ?_
    refine wg_istore (L' := [some (vR 96), some (vI a1), some (vI 0), some (vI (-4)), some (vI 0), none, none]) dX9_pledge_18 (Nat.le_of_ble_eq_true rfl) rfl ?_
    exact h
  · replace h := h.2 c3
    refine wg_iconst dX9_pledge_10 qiconst_m1 ?_
    exact wp_iret rfl dX9_pledge_11 ⟨Nat.le_refl _, Nat.le_refl _⟩ h
set_option maxRecDepth 100000 in
theorem bX9_pledge_20 {G : GG} {d : Nat} {M : MM} {Q : Option AV → MM → Prop} (a1 : Int) (s2 : Int) (s3 : Int) (s4 : Int) (hS : ShM M) (h :
((gI M 96 10) ≤ s4 →
(Q (some (vI (if a1 = 0 then (s2 : Int) else s3))) M)) ∧
(¬ ((gI M 96 10) ≤ s4) →
(Wp G mX9_pledge (d + 1) 0 0 32 [some (vR 96), some (vI a1), some (vI s2), some (vI s3), some (vI s4), some (vI 0), none] [] M 0 0 Q))) :
  Wp G mX9_pledge (d + 1) 0 0 20 [some (vR 96), some (vI a1), some (vI s2), some (vI s3), some (vI s4), none, none] [] M 0 0 Q := by
  refine wg_iload dX9_pledge_20 rfl ?_
  refine wg_aload_n dX9_pledge_22 rfl (Nat.succ_ne_zero _) ?_
  refine wg_getI dX9_pledge_23 (fl_X9_81 rfl) rfl rfl ?_
  refine wg_icmp_ge dX9_pledge_26 rfl (fun c1 => ?_) (fun c1 => ?_)
  · replace h := h.1 c1
    refine wg_iload_n dX9_pledge_98 rfl ?_
    have hJ3 : Wp G mX9_pledge (d + 1) 0 0 107 [some (vR 96), some (vI a1), some (vI s2), some (vI s3), some (vI s4), none, none] [vI (if a1 = 0 then (s2 : Int) else s3)] M 0 0 Q := by
      exact wp_iret rfl dX9_pledge_107 ⟨Nat.le_refl _, Nat.le_refl _⟩ h
    refine wg_if_ne dX9_pledge_99 rfl (fun c2 => ?_) (fun c2 => ?_)
    · rw [show (if a1 = 0 then (s2 : Int) else s3) = s3 from if_neg c2] at hJ3
      refine wg_iload_n dX9_pledge_106 rfl ?_
      exact hJ3
    · rw [show (if a1 = 0 then (s2 : Int) else s3) = s2 from if_pos c2] at hJ3
      refine wg_iload_n dX9_pledge_102 rfl ?_
      refine wg_goto dX9_pledge_103 rfl ?_
      exact hJ3
  · replace h := h.2 c1
    refine wg_iconst dX9_pledge_29 qiconst_0 ?_
    refine wg_istore (L' := [some (vR 96), some (vI a1), some (vI s2), some (vI s3), some (vI s4), some (vI 0), none]) dX9_pledge_30 (Nat.le_of_ble_eq_true rfl) rfl ?_
    exact h
set_option maxRecDepth 100000 in
theorem bX9_pledge_32 {G : GG} {d : Nat} {M : MM} {Q : Option AV → MM → Prop} (a1 : Int) (s2 : Int) (s3 : Int) (s4 : Int) (s5 : Int) (hS : ShM M) (h :
((gI M 96 10) ≤ s5 →
(R32 (s4 + 1) ∧
(Wp G mX9_pledge (d + 1) 0 0 20 [some (vR 96), some (vI a1), some (vI s2), some (vI s3), some (vI (s4 + 1)), none, none] [] M 0 0 Q))) ∧
(¬ ((gI M 96 10) ≤ s5) →
(Ok G mX9_rests d 0 0 [vR 96, vI s4, vI s5] M (fun v M2 => ∃ r3 : Int, v = some (vI r3) ∧ ShM M2 ∧ 
((r3 = 0 →
(R32 (s2 + 0) ∧
(R32 (s5 + 1) ∧
(Wp G mX9_pledge (d + 1) 0 0 32 [some (vR 96), some (vI a1), some (vI (s2 + 0)), some (vI s3), some (vI s4), some (vI (s5 + 1)), none] [] M2 0 0 Q)))) ∧
(¬ (r3 = 0) →
((s2 ≠ 0 →
(R32 (s2 + 1) ∧
(R32 (s5 + 1) ∧
(Wp G mX9_pledge (d + 1) 0 0 32 [some (vR 96), some (vI a1), some (vI (s2 + 1)), some (vI s3), some (vI s4), some (vI (s5 + 1)), none] [] M2 0 0 Q)))) ∧
(s2 = 0 →
(R32 (8 * s4) ∧
(R32 ((8 * s4) + s5) ∧
(R32 (s2 + 1) ∧
(R32 (s5 + 1) ∧
(Wp G mX9_pledge (d + 1) 0 0 32 [some (vR 96), some (vI a1), some (vI (s2 + 1)), some (vI ((8 * s4) + s5)), some (vI s4), some (vI (s5 + 1)), none] [] M2 0 0 Q))))))))))))) :
  Wp G mX9_pledge (d + 1) 0 0 32 [some (vR 96), some (vI a1), some (vI s2), some (vI s3), some (vI s4), some (vI s5), none] [] M 0 0 Q := by
  refine wg_iload dX9_pledge_32 rfl ?_
  refine wg_aload_n dX9_pledge_34 rfl (Nat.succ_ne_zero _) ?_
  refine wg_getI dX9_pledge_35 (fl_X9_81 rfl) rfl rfl ?_
  refine wg_icmp_ge dX9_pledge_38 rfl (fun c1 => ?_) (fun c1 => ?_)
  · replace h := h.1 c1
    obtain ⟨o, h⟩ := h
    refine wg_iinc (L' := [some (vR 96), some (vI a1), some (vI s2), some (vI s3), some (vI (s4 + 1)), some (vI s5), none]) dX9_pledge_92 (Nat.le_of_ble_eq_true rfl) rfl rfl o ?_
    refine wg_goto dX9_pledge_95 rfl ?_
    refine wg_weak [true, true, true, true, true, false, false] rfl ?_
    exact h
  · replace h := h.2 c1
    refine wg_aload_n dX9_pledge_41 rfl (Nat.succ_ne_zero _) ?_
    refine wg_iload dX9_pledge_42 rfl ?_
    refine wg_iload dX9_pledge_44 rfl ?_
    refine wg_callV (I' := mX9_rests) (ci := 9) (np := 2) (d' := d) (q := 96) (as := [vI s4, vI s5]) (st := []) dX9_pledge_46 lk_X9_278 ci_X9_rests rfl (Nat.le_of_ble_eq_true rfl) rfl rfl (Nat.le_of_ble_eq_true rfl) rfl (Nat.le_refl _) ⟨Nat.le_refl _, Nat.le_refl _⟩ h (fun v M2 h => ?_)
    obtain ⟨r3, rfl, hS, h⟩ := h
    refine wg_istore (L' := [some (vR 96), some (vI a1), some (vI s2), some (vI s3), some (vI s4), some (vI s5), some (vI r3)]) dX9_pledge_49 (Nat.le_of_ble_eq_true rfl) rfl ?_
    refine wg_iload dX9_pledge_51 rfl ?_
    refine wg_if_eq dX9_pledge_53 rfl (fun c4 => ?_) (fun c4 => ?_)
    · replace h := h.1 c4
      refine wg_iload_n dX9_pledge_71 rfl ?_
      refine wg_istore_n (L' := [some (vR 96), some (vI a1), some (vI s2), some (vI s3), some (vI s4), some (vI s5), some (vI r3)]) dX9_pledge_72 (Nat.le_of_ble_eq_true rfl) rfl ?_
      refine wg_iload_n dX9_pledge_73 rfl ?_
      refine wg_iload dX9_pledge_74 rfl ?_
      refine wg_if_eq dX9_pledge_76 rfl (fun _ => ?_) (fun c => absurd c4 c)
      refine wg_iconst dX9_pledge_83 qiconst_0 ?_
      obtain ⟨o, h⟩ := h
      refine wg_iadd dX9_pledge_84 o ?_
      refine wg_istore_n (L' := [some (vR 96), some (vI a1), some (vI (s2 + 0)), some (vI s3), some (vI s4), some (vI s5), some (vI r3)]) dX9_pledge_85 (Nat.le_of_ble_eq_true rfl) rfl ?_
      obtain ⟨o, h⟩ := h
      refine wg_iinc (L' := [some (vR 96), some (vI a1), some (vI (s2 + 0)), some (vI s3), some (vI s4), some (vI (s5 + 1)), some (vI r3)]) dX9_pledge_86 (Nat.le_of_ble_eq_true rfl) rfl rfl o ?_
      refine wg_goto dX9_pledge_89 rfl ?_
      refine wg_weak [true, true, true, true, true, true, false] rfl ?_
      exact h
    · replace h := h.2 c4
      refine wg_iload_n dX9_pledge_56 rfl ?_
      refine wg_if_ne dX9_pledge_57 rfl (fun c5 => ?_) (fun c5 => ?_)
      · replace h := h.1 c5
        refine wg_iload_n dX9_pledge_71 rfl ?_
        refine wg_istore_n (L' := [some (vR 96), some (vI a1), some (vI s2), some (vI s3), some (vI s4), some (vI s5), some (vI r3)]) dX9_pledge_72 (Nat.le_of_ble_eq_true rfl) rfl ?_
        refine wg_iload_n dX9_pledge_73 rfl ?_
        refine wg_iload dX9_pledge_74 rfl ?_
        refine wg_if_eq dX9_pledge_76 rfl (fun c => absurd c c4) (fun _ => ?_)
        refine wg_iconst dX9_pledge_79 qiconst_1 ?_
        refine wg_goto dX9_pledge_80 rfl ?_
        obtain ⟨o, h⟩ := h
        refine wg_iadd dX9_pledge_84 o ?_
        refine wg_istore_n (L' := [some (vR 96), some (vI a1), some (vI (s2 + 1)), some (vI s3), some (vI s4), some (vI s5), some (vI r3)]) dX9_pledge_85 (Nat.le_of_ble_eq_true rfl) rfl ?_
        obtain ⟨o, h⟩ := h
        refine wg_iinc (L' := [some (vR 96), some (vI a1), some (vI (s2 + 1)), some (vI s3), some (vI s4), some (vI (s5 + 1)), some (vI r3)]) dX9_pledge_86 (Nat.le_of_ble_eq_true rfl) rfl rfl o ?_
        refine wg_goto dX9_pledge_89 rfl ?_
        refine wg_weak [true, true, true, true, true, true, false] rfl ?_
        exact h
      · replace h := h.2 c5
        refine wg_bipush dX9_pledge_60 qbipush_8 ?_
        refine wg_iload dX9_pledge_62 rfl ?_
        obtain ⟨o, h⟩ := h
        refine wg_imul dX9_pledge_64 o ?_
        refine wg_iload dX9_pledge_65 rfl ?_
        obtain ⟨o, h⟩ := h
        refine wg_iadd dX9_pledge_67 o ?_
        refine wg_goto dX9_pledge_68 rfl ?_
        refine wg_istore_n (L' := [some (vR 96), some (vI a1), some (vI s2), some (vI ((8 * s4) + s5)), some (vI s4), some (vI s5), some (vI r3)]) dX9_pledge_72 (Nat.le_of_ble_eq_true rfl) rfl ?_
        refine wg_iload_n dX9_pledge_73 rfl ?_
        refine wg_iload dX9_pledge_74 rfl ?_
        refine wg_if_eq dX9_pledge_76 rfl (fun c => absurd c c4) (fun _ => ?_)
        refine wg_iconst dX9_pledge_79 qiconst_1 ?_
        refine wg_goto dX9_pledge_80 rfl ?_
        obtain ⟨o, h⟩ := h
        refine wg_iadd dX9_pledge_84 o ?_
        refine wg_istore_n (L' := [some (vR 96), some (vI a1), some (vI (s2 + 1)), some (vI ((8 * s4) + s5)), some (vI s4), some (vI s5), some (vI r3)]) dX9_pledge_85 (Nat.le_of_ble_eq_true rfl) rfl ?_
        obtain ⟨o, h⟩ := h
        refine wg_iinc (L' := [some (vR 96), some (vI a1), some (vI (s2 + 1)), some (vI ((8 * s4) + s5)), some (vI s4), some (vI (s5 + 1)), some (vI r3)]) dX9_pledge_86 (Nat.le_of_ble_eq_true rfl) rfl rfl o ?_
        refine wg_goto dX9_pledge_89 rfl ?_
        refine wg_weak [true, true, true, true, true, true, false] rfl ?_
        exact h
set_option maxRecDepth 100000 in
theorem bX9_layChain_0 {G : GG} {d : Nat} {M : MM} {Q : Option AV → MM → Prop} (a1 : Int) (a2 : Int) (hS : ShM M) (h :
R32 (a2 - 1) ∧
(Wp G mX9_layChain d 0 0 7 [some (vR 96), none, none, some (vI a1), some (vI (a2 - 1))] [] M 0 0 Q)) :
  Wp G mX9_layChain d 0 0 0 [some (vR 96), some (vI a1), some (vI a2), none, none] [] M 0 0 Q := by
  refine wg_iload_n dX9_layChain_0 rfl ?_
  refine wg_istore_n (L' := [some (vR 96), some (vI a1), some (vI a2), some (vI a1), none]) dX9_layChain_1 (Nat.le_of_ble_eq_true rfl) rfl ?_
  refine wg_iload_n dX9_layChain_2 rfl ?_
  refine wg_iconst dX9_layChain_3 qiconst_1 ?_
  obtain ⟨o, h⟩ := h
  refine wg_isub dX9_layChain_4 o ?_
  refine wg_istore (L' := [some (vR 96), some (vI a1), some (vI a2), some (vI a1), some (vI (a2 - 1))]) dX9_layChain_5 (Nat.le_of_ble_eq_true rfl) rfl ?_
  refine wg_weak [true, false, false, true, true] rfl ?_
  exact h
set_option maxRecDepth 100000 in
theorem bX9_layChain_7 {G : GG} {d : Nat} {M : MM} {Q : Option AV → MM → Prop} (s3 : Int) (s4 : Int) (hS : ShM M) (h :
(s4 < 0 →
(Q none M)) ∧
(¬ (s4 < 0) →
((gI M 96 15) ≠ 0 ∧
(((0 : Int) ≤ s4 ∧ (s4 : Int) < 6) ∧
(∀ M3 : MM, M3 = stI M 110 s4.toNat (Int.tmod s3 (gI M 96 15)) →
((gI M3 96 15) ≠ 0 ∧
R32 (Int.tdiv s3 (gI M3 96 15)) ∧
(R32 (s4 + (-1)) ∧
(Wp G mX9_layChain d 0 0 7 [some (vR 96), none, none, some (vI (Int.tdiv s3 (gI M3 96 15))), some (vI (s4 + (-1)))] [] M3 0 0 Q)))))))) :
  Wp G mX9_layChain d 0 0 7 [some (vR 96), none, none, some (vI s3), some (vI s4)] [] M 0 0 Q := by
  refine wg_iload dX9_layChain_7 rfl ?_
  refine wg_if_lt dX9_layChain_9 rfl (fun c1 => ?_) (fun c1 => ?_)
  · replace h := h.1 c1
    exact wp_vret rfl dX9_layChain_38 ⟨Nat.le_refl _, Nat.le_refl _⟩ h
  · replace h := h.2 c1
    refine wg_aload_n dX9_layChain_12 rfl (Nat.succ_ne_zero _) ?_
    refine wg_getRe dX9_layChain_13 (fl_X9_50 rfl) rfl rfl (sm27 hS) ?_
    refine wg_iload dX9_layChain_16 rfl ?_
    refine wg_iload_n dX9_layChain_18 rfl ?_
    refine wg_aload_n dX9_layChain_19 rfl (Nat.succ_ne_zero _) ?_
    refine wg_getI dX9_layChain_20 (fl_X9_87 rfl) rfl rfl ?_
    obtain ⟨o1, h⟩ := h
    refine wg_irem dX9_layChain_23 o1 ?_
    obtain ⟨o2, h⟩ := h
    refine wg_iast dX9_layChain_24 rfl o2.1 o2.2 ?_
    generalize hM : stI M 110 s4.toNat (Int.tmod s3 (gI M 96 15)) = M3
    replace h := h _ hM.symm
    replace hS : ShM M3 := by rw [← hM]; exact hS
    clear hM
    refine wg_iload_n dX9_layChain_25 rfl ?_
    refine wg_aload_n dX9_layChain_26 rfl (Nat.succ_ne_zero _) ?_
    refine wg_getI dX9_layChain_27 (fl_X9_87 rfl) rfl rfl ?_
    obtain ⟨o1, h⟩ := h
    obtain ⟨o, h⟩ := h
    refine wg_idiv dX9_layChain_30 o1 o ?_
    refine wg_istore_n (L' := [some (vR 96), none, none, some (vI (Int.tdiv s3 (gI M3 96 15))), some (vI s4)]) dX9_layChain_31 (Nat.le_of_ble_eq_true rfl) rfl ?_
    obtain ⟨o, h⟩ := h
    refine wg_iinc (L' := [some (vR 96), none, none, some (vI (Int.tdiv s3 (gI M3 96 15))), some (vI (s4 + (-1)))]) dX9_layChain_32 (Nat.le_of_ble_eq_true rfl) rfl rfl o ?_
    refine wg_goto dX9_layChain_35 rfl ?_
    exact h
set_option maxRecDepth 100000 in
theorem bX9_gains_0 {G : GG} {d : Nat} {M : MM} {Q : Option AV → MM → Prop} (a1 : Int) (hS : ShM M) (h :
Wp G mX9_gains (d + 1) 0 0 13 [some (vR 96), some (vI a1), some (vI 0), some (vL 1), none, some (vL 1), none, some (vI 1), some (vI 0), none, none] [] M 0 0 Q) :
  Wp G mX9_gains (d + 1) 0 0 0 [some (vR 96), some (vI a1), none, none, none, none, none, none, none, none, none] [] M 0 0 Q := by
  refine wg_iconst dX9_gains_0 qiconst_0 ?_
  refine wg_istore_n (L' := [some (vR 96), some (vI a1), some (vI 0), none, none, none, none, none, none, none, none]) dX9_gains_1 (Nat.le_of_ble_eq_true rfl) rfl ?_
  refine wg_lconst dX9_gains_2 rfl ?_
  refine wg_lstore_n (L' := [some (vR 96), some (vI a1), some (vI 0), some (vL 1), none, none, none, none, none, none, none]) dX9_gains_3 (Nat.le_of_ble_eq_true rfl) rfl ?_
  refine wg_lconst dX9_gains_4 rfl ?_
  refine wg_lstore (L' := [some (vR 96), some (vI a1), some (vI 0), some (vL 1), none, some (vL 1), none, none, none, none, none]) dX9_gains_5 (Nat.le_of_ble_eq_true rfl) rfl ?_
  refine wg_iconst dX9_gains_7 qiconst_1 ?_
  refine wg_istore (L' := [some (vR 96), some (vI a1), some (vI 0), some (vL 1), none, some (vL 1), none, some (vI 1), none, none, none]) dX9_gains_8 (Nat.le_of_ble_eq_true rfl) rfl ?_
  refine wg_iconst dX9_gains_10 qiconst_0 ?_
  refine wg_istore (L' := [some (vR 96), some (vI a1), some (vI 0), some (vL 1), none, some (vL 1), none, some (vI 1), some (vI 0), none, none]) dX9_gains_11 (Nat.le_of_ble_eq_true rfl) rfl ?_
  exact h
set_option maxRecDepth 100000 in
theorem bX9_gains_13 {G : GG} {d : Nat} {M : MM} {Q : Option AV → MM → Prop} (a1 : Int) (s2 : Int) (s3 : Int) (s5 : Int) (s7 : Int) (s8 : Int) (hS : ShM M) (h :
(a1 ≤ s8 →
((s7 = 0 →
(Q (some (vI 0)) M)) ∧
(¬ (s7 = 0) →
((s3 ≤ s5 →
(Q (some (vI 0)) M)) ∧
(¬ (s3 ≤ s5) →
(Q (some (vI 1)) M)))))) ∧
(¬ (a1 ≤ s8) →
(((0 : Int) ≤ s8 ∧ (s8 : Int) < 6) ∧
(R32 (4 * (gI M 110 s8.toNat)) ∧
(R32 (s8 + 1) ∧
(a1 ≠ 0 ∧
(((0 : Int) ≤ Int.tmod (s8 + 1) a1 ∧ (Int.tmod (s8 + 1) a1 : Int) < 6) ∧
(R32 (4 * (gI M 110 (Int.tmod (s8 + 1) a1).toNat)) ∧
((s7 = 0 →
((R32 ((4 * (gI M 110 s8.toNat)) + 2) ∧
(((0 : Int) ≤ (4 * (gI M 110 s8.toNat)) + 2 ∧ ((4 * (gI M 110 s8.toNat)) + 2 : Int) < 24) ∧
(R64 (s5 * (gI M 105 ((4 * (gI M 110 s8.toNat)) + 2).toNat)) ∧
(R32 ((4 * (gI M 110 s8.toNat)) + 3) ∧
(((0 : Int) ≤ (4 * (gI M 110 s8.toNat)) + 3 ∧ ((4 * (gI M 110 s8.toNat)) + 3 : Int) < 24) ∧
(R64 (s3 * (gI M 105 ((4 * (gI M 110 s8.toNat)) + 3).toNat)) ∧
(R32 (s8 + 1) ∧
(Wp G mX9_gains (d + 1) 0 0 13 [some (vR 96), some (vI a1), some (vI (iorv s2 (ishlv 1 (gI M 110 s8.toNat)))), some (vL (s3 * (gI M 105 ((4 * (gI M 110 s8.toNat)) + 3).toNat))), none, some (vL (s5 * (gI M 105 ((4 * (gI M 110 s8.toNat)) + 2).toNat))), none, some (vI 0), some (vI (s8 + 1)), none, none] [] M 0 0 Q)))))))))) ∧
(¬ (s7 = 0) →
((Ok G mX9_has d 0 0 [vI s2, vI (gI M 110 s8.toNat)] M (fun v M9 => ∃ r10 : Int, v = some (vI r10) ∧ ShM M9 ∧ 
((r10 ≠ 0 →
((R32 ((4 * (gI M 110 s8.toNat)) + 2) ∧
(((0 : Int) ≤ (4 * (gI M 110 s8.toNat)) + 2 ∧ ((4 * (gI M 110 s8.toNat)) + 2 : Int) < 24) ∧
(R64 (s5 * (gI M9 105 ((4 * (gI M 110 s8.toNat)) + 2).toNat)) ∧
(R32 ((4 * (gI M 110 s8.toNat)) + 3) ∧
(((0 : Int) ≤ (4 * (gI M 110 s8.toNat)) + 3 ∧ ((4 * (gI M 110 s8.toNat)) + 3 : Int) < 24) ∧
(R64 (s3 * (gI M9 105 ((4 * (gI M 110 s8.toNat)) + 3).toNat)) ∧
(R32 (s8 + 1) ∧
(Wp G mX9_gains (d + 1) 0 0 13 [some (vR 96), some (vI a1), some (vI (iorv s2 (ishlv 1 (gI M9 110 s8.toNat)))), some (vL (s3 * (gI M9 105 ((4 * (gI M 110 s8.toNat)) + 3).toNat))), none, some (vL (s5 * (gI M9 105 ((4 * (gI M 110 s8.toNat)) + 2).toNat))), none, some (vI 0), some (vI (s8 + 1)), none, none] [] M9 0 0 Q)))))))))) ∧
(r10 = 0 →
(R32 ((4 * (gI M 110 s8.toNat)) + 1) ∧
(((0 : Int) ≤ (4 * (gI M 110 s8.toNat)) + 1 ∧ ((4 * (gI M 110 s8.toNat)) + 1 : Int) < 24) ∧
(((0 : Int) ≤ 4 * (gI M 110 (Int.tmod (s8 + 1) a1).toNat) ∧ (4 * (gI M 110 (Int.tmod (s8 + 1) a1).toNat) : Int) < 24) ∧
((R32 ((4 * (gI M 110 s8.toNat)) + 2) ∧
(((0 : Int) ≤ (4 * (gI M 110 s8.toNat)) + 2 ∧ ((4 * (gI M 110 s8.toNat)) + 2 : Int) < 24) ∧
(R64 (s5 * (gI M9 105 ((4 * (gI M 110 s8.toNat)) + 2).toNat)) ∧
(R32 ((4 * (gI M 110 s8.toNat)) + 3) ∧
(((0 : Int) ≤ (4 * (gI M 110 s8.toNat)) + 3 ∧ ((4 * (gI M 110 s8.toNat)) + 3 : Int) < 24) ∧
(R64 (s3 * (gI M9 105 ((4 * (gI M 110 s8.toNat)) + 3).toNat)) ∧
(R32 (s8 + 1) ∧
(Wp G mX9_gains (d + 1) 0 0 13 [some (vR 96), some (vI a1), some (vI (iorv s2 (ishlv 1 (gI M9 110 s8.toNat)))), some (vL (s3 * (gI M9 105 ((4 * (gI M 110 s8.toNat)) + 3).toNat))), none, some (vL (s5 * (gI M9 105 ((4 * (gI M 110 s8.toNat)) + 2).toNat))), none, some (vI (if (gI M9 105 ((4 * (gI M 110 s8.toNat)) + 1).toNat) = (gI M9 105 (4 * (gI M 110 (Int.tmod (s8 + 1) a1).toNat)).toNat) then (1 : Int) else 0)), some (vI (s8 + 1)), none, none] [] M9 0 0 Q))))))))))))))))))))))))))) :
  Wp G mX9_gains (d + 1) 0 0 13 [some (vR 96), some (vI a1), some (vI s2), some (vL s3), none, some (vL s5), none, some (vI s7), some (vI s8), none, none] [] M 0 0 Q := by
  refine wg_iload dX9_gains_13 rfl ?_
  refine wg_iload_n dX9_gains_15 rfl ?_
  refine wg_icmp_ge dX9_gains_16 rfl (fun c1 => ?_) (fun c1 => ?_)
  · replace h := h.1 c1
    refine wg_iload dX9_gains_136 rfl ?_
    refine wg_if_eq dX9_gains_138 rfl (fun c2 => ?_) (fun c2 => ?_)
    · replace h := h.1 c2
      refine wg_iconst dX9_gains_152 qiconst_0 ?_
      exact wp_zret rfl dX9_gains_153 ⟨Nat.le_refl _, Nat.le_refl _⟩ (Or.inl rfl) h
    · replace h := h.2 c2
      refine wg_lload_n dX9_gains_141 rfl ?_
      refine wg_lload dX9_gains_142 rfl ?_
      refine wg_lcmp dX9_gains_144 ?_
      refine wg_if_le dX9_gains_145 rfl (fun c3 => ?_) (fun c3 => ?_)
      · replace c3 := lcmp_le.mp c3
        replace h := h.1 c3
        refine wg_iconst dX9_gains_152 qiconst_0 ?_
        exact wp_zret rfl dX9_gains_153 ⟨Nat.le_refl _, Nat.le_refl _⟩ (Or.inl rfl) h
      · replace c3 := (not_congr lcmp_le).mp c3
        replace h := h.2 c3
        refine wg_iconst dX9_gains_148 qiconst_1 ?_
        refine wg_goto dX9_gains_149 rfl ?_
        exact wp_zret rfl dX9_gains_153 ⟨Nat.le_refl _, Nat.le_refl _⟩ (Or.inr rfl) h
  · replace h := h.2 c1
    refine wg_iconst dX9_gains_19 qiconst_4 ?_
    refine wg_aload_n dX9_gains_20 rfl (Nat.succ_ne_zero _) ?_
    refine wg_getRe dX9_gains_21 (fl_X9_50 rfl) rfl rfl (sm27 hS) ?_
    refine wg_iload dX9_gains_24 rfl ?_
    obtain ⟨o4, h⟩ := h
    refine wg_iald dX9_gains_26 rfl o4.1 o4.2 ?_
    obtain ⟨o, h⟩ := h
    refine wg_imul dX9_gains_27 o ?_
    refine wg_istore (L' := [some (vR 96), some (vI a1), some (vI s2), some (vL s3), none, some (vL s5), none, some (vI s7), some (vI s8), some (vI (4 * (gI M 110 s8.toNat))), none]) dX9_gains_28 (Nat.le_of_ble_eq_true rfl) rfl ?_
    refine wg_iconst dX9_gains_30 qiconst_4 ?_
    refine wg_aload_n dX9_gains_31 rfl (Nat.succ_ne_zero _) ?_
    refine wg_getRe dX9_gains_32 (fl_X9_50 rfl) rfl rfl (sm27 hS) ?_
    refine wg_iload dX9_gains_35 rfl ?_
    refine wg_iconst dX9_gains_37 qiconst_1 ?_
    obtain ⟨o, h⟩ := h
    refine wg_iadd dX9_gains_38 o ?_
    refine wg_iload_n dX9_gains_39 rfl ?_
    obtain ⟨o1, h⟩ := h
    refine wg_irem dX9_gains_40 o1 ?_
    obtain ⟨o5, h⟩ := h
    refine wg_iald dX9_gains_41 rfl o5.1 o5.2 ?_
    obtain ⟨o, h⟩ := h
    refine wg_imul dX9_gains_42 o ?_
    refine wg_istore (L' := [some (vR 96), some (vI a1), some (vI s2), some (vL s3), none, some (vL s5), none, some (vI s7), some (vI s8), some (vI (4 * (gI M 110 s8.toNat))), some (vI (4 * (gI M 110 (Int.tmod (s8 + 1) a1).toNat)))]) dX9_gains_43 (Nat.le_of_ble_eq_true rfl) rfl ?_
    refine wg_iload dX9_gains_45 rfl ?_
    refine wg_if_eq dX9_gains_47 rfl (fun c6 => ?_) (fun c6 => ?_)
    · replace h := h.1 c6
      refine wg_iconst dX9_gains_87 qiconst_0 ?_
      refine wg_istore (L' := [some (vR 96), some (vI a1), some (vI s2), some (vL s3), none, some (vL s5), none, some (vI 0), some (vI s8), some (vI (4 * (gI M 110 s8.toNat))), some (vI (4 * (gI M 110 (Int.tmod (s8 + 1) a1).toNat)))]) dX9_gains_88 (Nat.le_of_ble_eq_true rfl) rfl ?_
      refine wg_iload_n dX9_gains_90 rfl ?_
      refine wg_iconst dX9_gains_91 qiconst_1 ?_
      refine wg_aload_n dX9_gains_92 rfl (Nat.succ_ne_zero _) ?_
      refine wg_getRe dX9_gains_93 (fl_X9_50 rfl) rfl rfl (sm27 hS) ?_
      refine wg_iload dX9_gains_96 rfl ?_
      refine wg_iald dX9_gains_98 rfl o4.1 o4.2 ?_
      refine wg_ishl dX9_gains_99 ?_
      refine wg_ior dX9_gains_100 ?_
      refine wg_istore_n (L' := [some (vR 96), some (vI a1), some (vI (iorv s2 (ishlv 1 (gI M 110 s8.toNat)))), some (vL s3), none, some (vL s5), none, some (vI 0), some (vI s8), some (vI (4 * (gI M 110 s8.toNat))), some (vI (4 * (gI M 110 (Int.tmod (s8 + 1) a1).toNat)))]) dX9_gains_101 (Nat.le_of_ble_eq_true rfl) rfl ?_
      refine wg_lload dX9_gains_102 rfl ?_
      refine wg_aload_n dX9_gains_104 rfl (Nat.succ_ne_zero _) ?_
      refine wg_getRe dX9_gains_105 (fl_X9_34 rfl) rfl rfl (sm16 hS) ?_
      refine wg_iload dX9_gains_108 rfl ?_
      refine wg_iconst dX9_gains_110 qiconst_2 ?_
      obtain ⟨o, h⟩ := h
      refine wg_iadd dX9_gains_111 o ?_
      obtain ⟨o7, h⟩ := h
      refine wg_iald dX9_gains_112 rfl o7.1 o7.2 ?_
      refine wg_i2l dX9_gains_113 ?_
      obtain ⟨o, h⟩ := h
      refine wg_lmul dX9_gains_114 o ?_
      refine wg_lstore (L' := [some (vR 96), some (vI a1), some (vI (iorv s2 (ishlv 1 (gI M 110 s8.toNat)))), some (vL s3), none, some (vL (s5 * (gI M 105 ((4 * (gI M 110 s8.toNat)) + 2).toNat))), none, some (vI 0), some (vI s8), some (vI (4 * (gI M 110 s8.toNat))), some (vI (4 * (gI M 110 (Int.tmod (s8 + 1) a1).toNat)))]) dX9_gains_115 (Nat.le_of_ble_eq_true rfl) rfl ?_
      refine wg_lload_n dX9_gains_117 rfl ?_
      refine wg_aload_n dX9_gains_118 rfl (Nat.succ_ne_zero _) ?_
      refine wg_getRe dX9_gains_119 (fl_X9_34 rfl) rfl rfl (sm16 hS) ?_
      refine wg_iload dX9_gains_122 rfl ?_
      refine wg_iconst dX9_gains_124 qiconst_3 ?_
      obtain ⟨o, h⟩ := h
      refine wg_iadd dX9_gains_125 o ?_
      obtain ⟨o8, h⟩ := h
      refine wg_iald dX9_gains_126 rfl o8.1 o8.2 ?_
      refine wg_i2l dX9_gains_127 ?_
      obtain ⟨o, h⟩ := h
      refine wg_lmul dX9_gains_128 o ?_
      refine wg_lstore_n (L' := [some (vR 96), some (vI a1), some (vI (iorv s2 (ishlv 1 (gI M 110 s8.toNat)))), some (vL (s3 * (gI M 105 ((4 * (gI M 110 s8.toNat)) + 3).toNat))), none, some (vL (s5 * (gI M 105 ((4 * (gI M 110 s8.toNat)) + 2).toNat))), none, some (vI 0), some (vI s8), some (vI (4 * (gI M 110 s8.toNat))), some (vI (4 * (gI M 110 (Int.tmod (s8 + 1) a1).toNat)))]) dX9_gains_129 (Nat.le_of_ble_eq_true rfl) rfl ?_
      obtain ⟨o, h⟩ := h
      refine wg_iinc (L' := [some (vR 96), some (vI a1), some (vI (iorv s2 (ishlv 1 (gI M 110 s8.toNat)))), some (vL (s3 * (gI M 105 ((4 * (gI M 110 s8.toNat)) + 3).toNat))), none, some (vL (s5 * (gI M 105 ((4 * (gI M 110 s8.toNat)) + 2).toNat))), none, some (vI 0), some (vI (s8 + 1)), some (vI (4 * (gI M 110 s8.toNat))), some (vI (4 * (gI M 110 (Int.tmod (s8 + 1) a1).toNat)))]) dX9_gains_130 (Nat.le_of_ble_eq_true rfl) rfl rfl o ?_
      refine wg_goto dX9_gains_133 rfl ?_
      refine wg_weak [true, true, true, true, false, true, false, true, true, false, false] rfl ?_
      exact h
    · replace h := h.2 c6
      refine wg_iload_n dX9_gains_50 rfl ?_
      refine wg_aload_n dX9_gains_51 rfl (Nat.succ_ne_zero _) ?_
      refine wg_getRe dX9_gains_52 (fl_X9_50 rfl) rfl rfl (sm27 hS) ?_
      refine wg_iload dX9_gains_55 rfl ?_
      refine wg_iald dX9_gains_57 rfl o4.1 o4.2 ?_
      refine wg_callS (I' := mX9_has) (np := 2) (d' := d) (as := [vI s2, vI (gI M 110 s8.toNat)]) (st := []) dX9_gains_58 lk_X9_166 ci_X9_has rfl rfl (Nat.le_of_ble_eq_true rfl) (Nat.le_refl _) ⟨Nat.le_refl _, Nat.le_refl _⟩ h (fun v M9 h => ?_)
      obtain ⟨r10, rfl, hS, h⟩ := h
      refine wg_if_ne dX9_gains_61 rfl (fun c11 => ?_) (fun c11 => ?_)
      · replace h := h.1 c11
        refine wg_iconst dX9_gains_87 qiconst_0 ?_
        refine wg_istore (L' := [some (vR 96), some (vI a1), some (vI s2), some (vL s3), none, some (vL s5), none, some (vI 0), some (vI s8), some (vI (4 * (gI M 110 s8.toNat))), some (vI (4 * (gI M 110 (Int.tmod (s8 + 1) a1).toNat)))]) dX9_gains_88 (Nat.le_of_ble_eq_true rfl) rfl ?_
        refine wg_iload_n dX9_gains_90 rfl ?_
        refine wg_iconst dX9_gains_91 qiconst_1 ?_
        refine wg_aload_n dX9_gains_92 rfl (Nat.succ_ne_zero _) ?_
        refine wg_getRe dX9_gains_93 (fl_X9_50 rfl) rfl rfl (sm27 hS) ?_
        refine wg_iload dX9_gains_96 rfl ?_
        refine wg_iald dX9_gains_98 rfl o4.1 o4.2 ?_
        refine wg_ishl dX9_gains_99 ?_
        refine wg_ior dX9_gains_100 ?_
        refine wg_istore_n (L' := [some (vR 96), some (vI a1), some (vI (iorv s2 (ishlv 1 (gI M9 110 s8.toNat)))), some (vL s3), none, some (vL s5), none, some (vI 0), some (vI s8), some (vI (4 * (gI M 110 s8.toNat))), some (vI (4 * (gI M 110 (Int.tmod (s8 + 1) a1).toNat)))]) dX9_gains_101 (Nat.le_of_ble_eq_true rfl) rfl ?_
        refine wg_lload dX9_gains_102 rfl ?_
        refine wg_aload_n dX9_gains_104 rfl (Nat.succ_ne_zero _) ?_
        refine wg_getRe dX9_gains_105 (fl_X9_34 rfl) rfl rfl (sm16 hS) ?_
        refine wg_iload dX9_gains_108 rfl ?_
        refine wg_iconst dX9_gains_110 qiconst_2 ?_
        obtain ⟨o, h⟩ := h
        refine wg_iadd dX9_gains_111 o ?_
        obtain ⟨o12, h⟩ := h
        refine wg_iald dX9_gains_112 rfl o12.1 o12.2 ?_
        refine wg_i2l dX9_gains_113 ?_
        obtain ⟨o, h⟩ := h
        refine wg_lmul dX9_gains_114 o ?_
        refine wg_lstore (L' := [some (vR 96), some (vI a1), some (vI (iorv s2 (ishlv 1 (gI M9 110 s8.toNat)))), some (vL s3), none, some (vL (s5 * (gI M9 105 ((4 * (gI M 110 s8.toNat)) + 2).toNat))), none, some (vI 0), some (vI s8), some (vI (4 * (gI M 110 s8.toNat))), some (vI (4 * (gI M 110 (Int.tmod (s8 + 1) a1).toNat)))]) dX9_gains_115 (Nat.le_of_ble_eq_true rfl) rfl ?_
        refine wg_lload_n dX9_gains_117 rfl ?_
        refine wg_aload_n dX9_gains_118 rfl (Nat.succ_ne_zero _) ?_
        refine wg_getRe dX9_gains_119 (fl_X9_34 rfl) rfl rfl (sm16 hS) ?_
        refine wg_iload dX9_gains_122 rfl ?_
        refine wg_iconst dX9_gains_124 qiconst_3 ?_
        obtain ⟨o, h⟩ := h
        refine wg_iadd dX9_gains_125 o ?_
        obtain ⟨o13, h⟩ := h
        refine wg_iald dX9_gains_126 rfl o13.1 o13.2 ?_
        refine wg_i2l dX9_gains_127 ?_
        obtain ⟨o, h⟩ := h
        refine wg_lmul dX9_gains_128 o ?_
        refine wg_lstore_n (L' := [some (vR 96), some (vI a1), some (vI (iorv s2 (ishlv 1 (gI M9 110 s8.toNat)))), some (vL (s3 * (gI M9 105 ((4 * (gI M 110 s8.toNat)) + 3).toNat))), none, some (vL (s5 * (gI M9 105 ((4 * (gI M 110 s8.toNat)) + 2).toNat))), none, some (vI 0), some (vI s8), some (vI (4 * (gI M 110 s8.toNat))), some (vI (4 * (gI M 110 (Int.tmod (s8 + 1) a1).toNat)))]) dX9_gains_129 (Nat.le_of_ble_eq_true rfl) rfl ?_
        obtain ⟨o, h⟩ := h
        refine wg_iinc (L' := [some (vR 96), some (vI a1), some (vI (iorv s2 (ishlv 1 (gI M9 110 s8.toNat)))), some (vL (s3 * (gI M9 105 ((4 * (gI M 110 s8.toNat)) + 3).toNat))), none, some (vL (s5 * (gI M9 105 ((4 * (gI M 110 s8.toNat)) + 2).toNat))), none, some (vI 0), some (vI (s8 + 1)), some (vI (4 * (gI M 110 s8.toNat))), some (vI (4 * (gI M 110 (Int.tmod (s8 + 1) a1).toNat)))]) dX9_gains_130 (Nat.le_of_ble_eq_true rfl) rfl rfl o ?_
        refine wg_goto dX9_gains_133 rfl ?_
        refine wg_weak [true, true, true, true, false, true, false, true, true, false, false] rfl ?_
        exact h
      · replace h := h.2 c11
        refine wg_aload_n dX9_gains_64 rfl (Nat.succ_ne_zero _) ?_
        refine wg_getRe dX9_gains_65 (fl_X9_34 rfl) rfl rfl (sm16 hS) ?_
        refine wg_iload dX9_gains_68 rfl ?_
        refine wg_iconst dX9_gains_70 qiconst_1 ?_
        obtain ⟨o, h⟩ := h
        refine wg_iadd dX9_gains_71 o ?_
        obtain ⟨o14, h⟩ := h
        refine wg_iald dX9_gains_72 rfl o14.1 o14.2 ?_
        refine wg_aload_n dX9_gains_73 rfl (Nat.succ_ne_zero _) ?_
        refine wg_getRe dX9_gains_74 (fl_X9_34 rfl) rfl rfl (sm16 hS) ?_
        refine wg_iload dX9_gains_77 rfl ?_
        obtain ⟨o15, h⟩ := h
        refine wg_iald dX9_gains_79 rfl o15.1 o15.2 ?_
        have hJ19 : Wp G mX9_gains (d + 1) 0 0 88 [some (vR 96), some (vI a1), some (vI s2), some (vL s3), none, some (vL s5), none, some (vI s7), some (vI s8), some (vI (4 * (gI M 110 s8.toNat))), some (vI (4 * (gI M 110 (Int.tmod (s8 + 1) a1).toNat)))] [vI (if (gI M9 105 ((4 * (gI M 110 s8.toNat)) + 1).toNat) = (gI M9 105 (4 * (gI M 110 (Int.tmod (s8 + 1) a1).toNat)).toNat) then (1 : Int) else 0)] M9 0 0 Q := by
          refine wg_istore (L' := [some (vR 96), some (vI a1), some (vI s2), some (vL s3), none, some (vL s5), none, some (vI (if (gI M9 105 ((4 * (gI M 110 s8.toNat)) + 1).toNat) = (gI M9 105 (4 * (gI M 110 (Int.tmod (s8 + 1) a1).toNat)).toNat) then (1 : Int) else 0)), some (vI s8), some (vI (4 * (gI M 110 s8.toNat))), some (vI (4 * (gI M 110 (Int.tmod (s8 + 1) a1).toNat)))]) dX9_gains_88 (Nat.le_of_ble_eq_true rfl) rfl ?_
          refine wg_iload_n dX9_gains_90 rfl ?_
          refine wg_iconst dX9_gains_91 qiconst_1 ?_
          refine wg_aload_n dX9_gains_92 rfl (Nat.succ_ne_zero _) ?_
          refine wg_getRe dX9_gains_93 (fl_X9_50 rfl) rfl rfl (sm27 hS) ?_
          refine wg_iload dX9_gains_96 rfl ?_
          refine wg_iald dX9_gains_98 rfl o4.1 o4.2 ?_
          refine wg_ishl dX9_gains_99 ?_
          refine wg_ior dX9_gains_100 ?_
          refine wg_istore_n (L' := [some (vR 96), some (vI a1), some (vI (iorv s2 (ishlv 1 (gI M9 110 s8.toNat)))), some (vL s3), none, some (vL s5), none, some (vI (if (gI M9 105 ((4 * (gI M 110 s8.toNat)) + 1).toNat) = (gI M9 105 (4 * (gI M 110 (Int.tmod (s8 + 1) a1).toNat)).toNat) then (1 : Int) else 0)), some (vI s8), some (vI (4 * (gI M 110 s8.toNat))), some (vI (4 * (gI M 110 (Int.tmod (s8 + 1) a1).toNat)))]) dX9_gains_101 (Nat.le_of_ble_eq_true rfl) rfl ?_
          refine wg_lload dX9_gains_102 rfl ?_
          refine wg_aload_n dX9_gains_104 rfl (Nat.succ_ne_zero _) ?_
          refine wg_getRe dX9_gains_105 (fl_X9_34 rfl) rfl rfl (sm16 hS) ?_
          refine wg_iload dX9_gains_108 rfl ?_
          refine wg_iconst dX9_gains_110 qiconst_2 ?_
          obtain ⟨o, h⟩ := h
          refine wg_iadd dX9_gains_111 o ?_
          obtain ⟨o17, h⟩ := h
          refine wg_iald dX9_gains_112 rfl o17.1 o17.2 ?_
          refine wg_i2l dX9_gains_113 ?_
          obtain ⟨o, h⟩ := h
          refine wg_lmul dX9_gains_114 o ?_
          refine wg_lstore (L' := [some (vR 96), some (vI a1), some (vI (iorv s2 (ishlv 1 (gI M9 110 s8.toNat)))), some (vL s3), none, some (vL (s5 * (gI M9 105 ((4 * (gI M 110 s8.toNat)) + 2).toNat))), none, some (vI (if (gI M9 105 ((4 * (gI M 110 s8.toNat)) + 1).toNat) = (gI M9 105 (4 * (gI M 110 (Int.tmod (s8 + 1) a1).toNat)).toNat) then (1 : Int) else 0)), some (vI s8), some (vI (4 * (gI M 110 s8.toNat))), some (vI (4 * (gI M 110 (Int.tmod (s8 + 1) a1).toNat)))]) dX9_gains_115 (Nat.le_of_ble_eq_true rfl) rfl ?_
          refine wg_lload_n dX9_gains_117 rfl ?_
          refine wg_aload_n dX9_gains_118 rfl (Nat.succ_ne_zero _) ?_
          refine wg_getRe dX9_gains_119 (fl_X9_34 rfl) rfl rfl (sm16 hS) ?_
          refine wg_iload dX9_gains_122 rfl ?_
          refine wg_iconst dX9_gains_124 qiconst_3 ?_
          obtain ⟨o, h⟩ := h
          refine wg_iadd dX9_gains_125 o ?_
          obtain ⟨o18, h⟩ := h
          refine wg_iald dX9_gains_126 rfl o18.1 o18.2 ?_
          refine wg_i2l dX9_gains_127 ?_
          obtain ⟨o, h⟩ := h
          refine wg_lmul dX9_gains_128 o ?_
          refine wg_lstore_n (L' := [some (vR 96), some (vI a1), some (vI (iorv s2 (ishlv 1 (gI M9 110 s8.toNat)))), some (vL (s3 * (gI M9 105 ((4 * (gI M 110 s8.toNat)) + 3).toNat))), none, some (vL (s5 * (gI M9 105 ((4 * (gI M 110 s8.toNat)) + 2).toNat))), none, some (vI (if (gI M9 105 ((4 * (gI M 110 s8.toNat)) + 1).toNat) = (gI M9 105 (4 * (gI M 110 (Int.tmod (s8 + 1) a1).toNat)).toNat) then (1 : Int) else 0)), some (vI s8), some (vI (4 * (gI M 110 s8.toNat))), some (vI (4 * (gI M 110 (Int.tmod (s8 + 1) a1).toNat)))]) dX9_gains_129 (Nat.le_of_ble_eq_true rfl) rfl ?_
          obtain ⟨o, h⟩ := h
          refine wg_iinc (L' := [some (vR 96), some (vI a1), some (vI (iorv s2 (ishlv 1 (gI M9 110 s8.toNat)))), some (vL (s3 * (gI M9 105 ((4 * (gI M 110 s8.toNat)) + 3).toNat))), none, some (vL (s5 * (gI M9 105 ((4 * (gI M 110 s8.toNat)) + 2).toNat))), none, some (vI (if (gI M9 105 ((4 * (gI M 110 s8.toNat)) + 1).toNat) = (gI M9 105 (4 * (gI M 110 (Int.tmod (s8 + 1) a1).toNat)).toNat) then (1 : Int) else 0)), some (vI (s8 + 1)), some (vI (4 * (gI M 110 s8.toNat))), some (vI (4 * (gI M 110 (Int.tmod (s8 + 1) a1).toNat)))]) dX9_gains_130 (Nat.le_of_ble_eq_true rfl) rfl rfl o ?_
          refine wg_goto dX9_gains_133 rfl ?_
          refine wg_weak [true, true, true, true, false, true, false, true, true, false, false] rfl ?_
          exact h
        refine wg_icmp_ne dX9_gains_80 rfl (fun c16 => ?_) (fun c16 => ?_)
        · rw [show (if (gI M9 105 ((4 * (gI M 110 s8.toNat)) + 1).toNat) = (gI M9 105 (4 * (gI M 110 (Int.tmod (s8 + 1) a1).toNat)).toNat) then (1 : Int) else 0) = 0 from if_neg c16] at hJ19
          refine wg_iconst dX9_gains_87 qiconst_0 ?_
          exact hJ19
        · rw [show (if (gI M9 105 ((4 * (gI M 110 s8.toNat)) + 1).toNat) = (gI M9 105 (4 * (gI M 110 (Int.tmod (s8 + 1) a1).toNat)).toNat) then (1 : Int) else 0) = 1 from if_pos c16] at hJ19
          refine wg_iconst dX9_gains_83 qiconst_1 ?_
          refine wg_goto dX9_gains_84 rfl ?_
          exact hJ19
set_option maxRecDepth 100000 in
theorem bX9_gain_0 {G : GG} {d : Nat} {M : MM} {Q : Option AV → MM → Prop} (a1 : Int) (hS : ShM M) (h :
Ok G mX9_in d 0 0 [vL a1, vL (-3), vL 5] M (fun v M1 => ∃ r2 : Int, v = some (vI r2) ∧ ShM M1 ∧ 
((r2 ≠ 0 →
(Wp G mX9_gain (d + 1) 0 0 20 [some (vR 96), some (vI a1), some (vI 1), some (vI 1), none] [] M1 0 0 Q)) ∧
(r2 = 0 →
(Q (some (vI (-1))) M1))))) :
  Wp G mX9_gain (d + 1) 0 0 0 [some (vR 96), some (vI a1), none, none, none] [] M 0 0 Q := by
  refine wg_iload_n dX9_gain_0 rfl ?_
  refine wg_i2l dX9_gain_1 ?_
  refine wg_ldc2 dX9_gain_2 kc_X9_281 ⟨by decide, by decide⟩ ?_
  refine wg_ldc2 dX9_gain_5 kc_X9_283 ⟨by decide, by decide⟩ ?_
  refine wg_callS (I' := mX9_in) (np := 3) (d' := d) (as := [vL a1, vL (-3), vL 5]) (st := []) dX9_gain_8 lk_X9_100 ci_X9_in rfl rfl (Nat.le_of_ble_eq_true rfl) (Nat.le_refl _) ⟨Nat.le_refl _, Nat.le_refl _⟩ h (fun v M1 h => ?_)
  obtain ⟨r2, rfl, hS, h⟩ := h
  refine wg_if_ne dX9_gain_11 rfl (fun c3 => ?_) (fun c3 => ?_)
  · replace h := h.1 c3
    refine wg_iconst dX9_gain_16 qiconst_1 ?_
    refine wg_istore_n (L' := [some (vR 96), some (vI a1), some (vI 1), none, none]) dX9_gain_17 (Nat.le_of_ble_eq_true rfl) rfl ?_
    refine wg_iconst dX9_gain_18 qiconst_1 ?_
    refine wg_istore_n (L' := [some (vR 96), some (vI a1), some (vI 1), some (vI 1), none]) dX9_gain_19 (Nat.le_of_ble_eq_true rfl) rfl ?_
    exact h
  · replace h := h.2 c3
    refine wg_iconst dX9_gain_14 qiconst_m1 ?_
    exact wp_iret rfl dX9_gain_15 ⟨Nat.le_refl _, Nat.le_refl _⟩ h
set_option maxRecDepth 100000 in
theorem bX9_gain_20 {G : GG} {d : Nat} {M : MM} {Q : Option AV → MM → Prop} (a1 : Int) (s2 : Int) (s3 : Int) (hS : ShM M) (h :
((gI M 96 15) < s3 →
(Q (some (vI (-4))) M)) ∧
(¬ ((gI M 96 15) < s3) →
(R32 (s2 * (gI M 96 15)) ∧
(Wp G mX9_gain (d + 1) 0 0 38 [some (vR 96), some (vI a1), some (vI (s2 * (gI M 96 15))), some (vI s3), some (vI 0)] [] M 0 0 Q)))) :
  Wp G mX9_gain (d + 1) 0 0 20 [some (vR 96), some (vI a1), some (vI s2), some (vI s3), none] [] M 0 0 Q := by
  refine wg_iload_n dX9_gain_20 rfl ?_
  refine wg_aload_n dX9_gain_21 rfl (Nat.succ_ne_zero _) ?_
  refine wg_getI dX9_gain_22 (fl_X9_87 rfl) rfl rfl ?_
  refine wg_icmp_gt dX9_gain_25 rfl (fun c1 => ?_) (fun c1 => ?_)
  · replace h := h.1 c1
    refine wg_bipush dX9_gain_78 qbipush_m4 ?_
    exact wp_iret rfl dX9_gain_80 ⟨Nat.le_refl _, Nat.le_refl _⟩ h
  · replace h := h.2 c1
    refine wg_iload_n dX9_gain_28 rfl ?_
    refine wg_aload_n dX9_gain_29 rfl (Nat.succ_ne_zero _) ?_
    refine wg_getI dX9_gain_30 (fl_X9_87 rfl) rfl rfl ?_
    obtain ⟨o, h⟩ := h
    refine wg_imul dX9_gain_33 o ?_
    refine wg_istore_n (L' := [some (vR 96), some (vI a1), some (vI (s2 * (gI M 96 15))), some (vI s3), none]) dX9_gain_34 (Nat.le_of_ble_eq_true rfl) rfl ?_
    refine wg_iconst dX9_gain_35 qiconst_0 ?_
    refine wg_istore (L' := [some (vR 96), some (vI a1), some (vI (s2 * (gI M 96 15))), some (vI s3), some (vI 0)]) dX9_gain_36 (Nat.le_of_ble_eq_true rfl) rfl ?_
    exact h
set_option maxRecDepth 100000 in
theorem bX9_gain_38 {G : GG} {d : Nat} {M : MM} {Q : Option AV → MM → Prop} (a1 : Int) (s2 : Int) (s3 : Int) (s4 : Int) (hS : ShM M) (h :
(s2 ≤ s4 →
(R32 (s3 + 1) ∧
(Wp G mX9_gain (d + 1) 0 0 20 [some (vR 96), some (vI a1), some (vI s2), some (vI (s3 + 1)), none] [] M 0 0 Q))) ∧
(¬ (s2 ≤ s4) →
(Ok G mX9_layChain d 0 0 [vR 96, vI s4, vI s3] M (fun v M2 => v = none ∧ ShM M2 ∧ 
(Ok G mX9_gains d 0 0 [vR 96, vI s3] M2 (fun v M3 => ∃ r4 : Int, v = some (vI r4) ∧ ShM M3 ∧ 
((r4 = 0 →
(R32 (s4 + 1) ∧
(Wp G mX9_gain (d + 1) 0 0 38 [some (vR 96), some (vI a1), some (vI s2), some (vI s3), some (vI (s4 + 1))] [] M3 0 0 Q))) ∧
(¬ (r4 = 0) →
(Ok G mX9_ofChain d 0 0 [vR 96, vI a1, vI s3] M3 (fun v M6 => ∃ r7 : Int, v = some (vI r7) ∧ ShM M6 ∧ 
(Q (some (vI r7)) M6))))))))))) :
  Wp G mX9_gain (d + 1) 0 0 38 [some (vR 96), some (vI a1), some (vI s2), some (vI s3), some (vI s4)] [] M 0 0 Q := by
  refine wg_iload dX9_gain_38 rfl ?_
  refine wg_iload_n dX9_gain_40 rfl ?_
  refine wg_icmp_ge dX9_gain_41 rfl (fun c1 => ?_) (fun c1 => ?_)
  · replace h := h.1 c1
    obtain ⟨o, h⟩ := h
    refine wg_iinc (L' := [some (vR 96), some (vI a1), some (vI s2), some (vI (s3 + 1)), some (vI s4)]) dX9_gain_72 (Nat.le_of_ble_eq_true rfl) rfl rfl o ?_
    refine wg_goto dX9_gain_75 rfl ?_
    refine wg_weak [true, true, true, true, false] rfl ?_
    exact h
  · replace h := h.2 c1
    refine wg_aload_n dX9_gain_44 rfl (Nat.succ_ne_zero _) ?_
    refine wg_iload dX9_gain_45 rfl ?_
    refine wg_iload_n dX9_gain_47 rfl ?_
    refine wg_callV (I' := mX9_layChain) (ci := 9) (np := 2) (d' := d) (q := 96) (as := [vI s4, vI s3]) (st := []) dX9_gain_48 lk_X9_285 ci_X9_layChain rfl (Nat.le_of_ble_eq_true rfl) rfl rfl (Nat.le_of_ble_eq_true rfl) rfl (Nat.le_refl _) ⟨Nat.le_refl _, Nat.le_refl _⟩ h (fun v M2 h => ?_)
    obtain ⟨rfl, hS, h⟩ := h
    refine wg_aload_n dX9_gain_51 rfl (Nat.succ_ne_zero _) ?_
    refine wg_iload_n dX9_gain_52 rfl ?_
    refine wg_callV (I' := mX9_gains) (ci := 9) (np := 1) (d' := d) (q := 96) (as := [vI s3]) (st := []) dX9_gain_53 lk_X9_288 ci_X9_gains rfl (Nat.le_of_ble_eq_true rfl) rfl rfl (Nat.le_of_ble_eq_true rfl) rfl (Nat.le_refl _) ⟨Nat.le_refl _, Nat.le_refl _⟩ h (fun v M3 h => ?_)
    obtain ⟨r4, rfl, hS, h⟩ := h
    refine wg_if_eq dX9_gain_56 rfl (fun c5 => ?_) (fun c5 => ?_)
    · replace h := h.1 c5
      obtain ⟨o, h⟩ := h
      refine wg_iinc (L' := [some (vR 96), some (vI a1), some (vI s2), some (vI s3), some (vI (s4 + 1))]) dX9_gain_66 (Nat.le_of_ble_eq_true rfl) rfl rfl o ?_
      refine wg_goto dX9_gain_69 rfl ?_
      exact h
    · replace h := h.2 c5
      refine wg_aload_n dX9_gain_59 rfl (Nat.succ_ne_zero _) ?_
      refine wg_iload_n dX9_gain_60 rfl ?_
      refine wg_iload_n dX9_gain_61 rfl ?_
      refine wg_callV (I' := mX9_ofChain) (ci := 9) (np := 2) (d' := d) (q := 96) (as := [vI a1, vI s3]) (st := []) dX9_gain_62 lk_X9_291 ci_X9_ofChain rfl (Nat.le_of_ble_eq_true rfl) rfl rfl (Nat.le_of_ble_eq_true rfl) rfl (Nat.le_refl _) ⟨Nat.le_refl _, Nat.le_refl _⟩ h (fun v M6 h => ?_)
      obtain ⟨r7, rfl, hS, h⟩ := h
      exact wp_iret rfl dX9_gain_65 ⟨Nat.le_refl _, Nat.le_refl _⟩ h
set_option maxRecDepth 100000 in
theorem bX9_ofChain_0 {G : GG} {d : Nat} {M : MM} {Q : Option AV → MM → Prop} (a1 : Int) (a2 : Int) (hS : ShM M) (h :
Wp G mX9_ofChain (d + 1) 0 0 8 [some (vR 96), some (vI a1), some (vI a2), some (vL 1), none, some (vL 1), none, some (vI 0), none] [] M 0 0 Q) :
  Wp G mX9_ofChain (d + 1) 0 0 0 [some (vR 96), some (vI a1), some (vI a2), none, none, none, none, none, none] [] M 0 0 Q := by
  refine wg_lconst dX9_ofChain_0 rfl ?_
  refine wg_lstore_n (L' := [some (vR 96), some (vI a1), some (vI a2), some (vL 1), none, none, none, none, none]) dX9_ofChain_1 (Nat.le_of_ble_eq_true rfl) rfl ?_
  refine wg_lconst dX9_ofChain_2 rfl ?_
  refine wg_lstore (L' := [some (vR 96), some (vI a1), some (vI a2), some (vL 1), none, some (vL 1), none, none, none]) dX9_ofChain_3 (Nat.le_of_ble_eq_true rfl) rfl ?_
  refine wg_iconst dX9_ofChain_5 qiconst_0 ?_
  refine wg_istore (L' := [some (vR 96), some (vI a1), some (vI a2), some (vL 1), none, some (vL 1), none, some (vI 0), none]) dX9_ofChain_6 (Nat.le_of_ble_eq_true rfl) rfl ?_
  exact h
set_option maxRecDepth 100000 in
theorem bX9_ofChain_8 {G : GG} {d : Nat} {M : MM} {Q : Option AV → MM → Prop} (a1 : Int) (a2 : Int) (s3 : Int) (s5 : Int) (s7 : Int) (hS : ShM M) (h :
(a2 ≤ s7 →
(Ok G mX9_divisor d 0 0 [vL s3, vL s5] M (fun v M2 => ∃ r3 : Int, v = some (vL r3) ∧ ShM M2 ∧ 
((a1 ≠ (-1) →
((a1 ≠ (-2) →
((a1 ≠ (-3) →
((a2 ≤ a1 →
(Q (some (vI (-4))) M2)) ∧
(¬ (a2 ≤ a1) →
(((0 : Int) ≤ a1 ∧ (a1 : Int) < 6) ∧
(Q (some (vI (gI M2 110 a1.toNat))) M2))))) ∧
(a1 = (-3) →
(r3 ≠ 0 ∧
R64 (Int.tdiv s5 r3) ∧
(R32 (Int.tdiv s5 r3) ∧
(Q (some (vI (Int.tdiv s5 r3))) M2)))))) ∧
(a1 = (-2) →
(r3 ≠ 0 ∧
R64 (Int.tdiv s3 r3) ∧
(R32 (Int.tdiv s3 r3) ∧
(Q (some (vI (Int.tdiv s3 r3))) M2)))))) ∧
(a1 = (-1) →
(Q (some (vI a2)) M2)))))) ∧
(¬ (a2 ≤ s7) →
(((0 : Int) ≤ s7 ∧ (s7 : Int) < 6) ∧
(R32 (4 * (gI M 110 s7.toNat)) ∧
(R32 ((4 * (gI M 110 s7.toNat)) + 2) ∧
(((0 : Int) ≤ (4 * (gI M 110 s7.toNat)) + 2 ∧ ((4 * (gI M 110 s7.toNat)) + 2 : Int) < 24) ∧
(R64 (s5 * (gI M 105 ((4 * (gI M 110 s7.toNat)) + 2).toNat)) ∧
((R32 (4 * (gI M 110 s7.toNat)) ∧
(R32 ((4 * (gI M 110 s7.toNat)) + 3) ∧
(((0 : Int) ≤ (4 * (gI M 110 s7.toNat)) + 3 ∧ ((4 * (gI M 110 s7.toNat)) + 3 : Int) < 24) ∧
(R64 (s3 * (gI M 105 ((4 * (gI M 110 s7.toNat)) + 3).toNat)) ∧
(R32 (s7 + 1) ∧
(Wp G mX9_ofChain (d + 1) 0 0 8 [some (vR 96), some (vI a1), some (vI a2), some (vL (s3 * (gI M 105 ((4 * (gI M 110 s7.toNat)) + 3).toNat))), none, some (vL (s5 * (gI M 105 ((4 * (gI M 110 s7.toNat)) + 2).toNat))), none, some (vI (s7 + 1)), none] [] M 0 0 Q)))))))))))))) :
  Wp G mX9_ofChain (d + 1) 0 0 8 [some (vR 96), some (vI a1), some (vI a2), some (vL s3), none, some (vL s5), none, some (vI s7), none] [] M 0 0 Q := by
  refine wg_iload dX9_ofChain_8 rfl ?_
  refine wg_iload_n dX9_ofChain_10 rfl ?_
  refine wg_icmp_ge dX9_ofChain_11 rfl (fun c1 => ?_) (fun c1 => ?_)
  · replace h := h.1 c1
    refine wg_lload_n dX9_ofChain_62 rfl ?_
    refine wg_lload dX9_ofChain_63 rfl ?_
    refine wg_callS (I' := mX9_divisor) (np := 2) (d' := d) (as := [vL s3, vL s5]) (st := []) dX9_ofChain_65 lk_X9_271 ci_X9_divisor rfl rfl (Nat.le_of_ble_eq_true rfl) (Nat.le_refl _) ⟨Nat.le_refl _, Nat.le_refl _⟩ h (fun v M2 h => ?_)
    obtain ⟨r3, rfl, hS, h⟩ := h
    refine wg_lstore (L' := [some (vR 96), some (vI a1), some (vI a2), some (vL s3), none, some (vL s5), none, some (vL r3), none]) dX9_ofChain_68 (Nat.le_of_ble_eq_true rfl) rfl ?_
    refine wg_iload_n dX9_ofChain_70 rfl ?_
    refine wg_iconst dX9_ofChain_71 qiconst_m1 ?_
    refine wg_icmp_ne dX9_ofChain_72 rfl (fun c4 => ?_) (fun c4 => ?_)
    · replace h := h.1 c4
      refine wg_iload_n dX9_ofChain_79 rfl ?_
      refine wg_bipush dX9_ofChain_80 qbipush_m2 ?_
      refine wg_icmp_ne dX9_ofChain_82 rfl (fun c5 => ?_) (fun c5 => ?_)
      · replace h := h.1 c5
        refine wg_iload_n dX9_ofChain_93 rfl ?_
        refine wg_bipush dX9_ofChain_94 qbipush_m3 ?_
        refine wg_icmp_ne dX9_ofChain_96 rfl (fun c6 => ?_) (fun c6 => ?_)
        · replace h := h.1 c6
          refine wg_iload_n dX9_ofChain_108 rfl ?_
          refine wg_iload_n dX9_ofChain_109 rfl ?_
          refine wg_icmp_ge dX9_ofChain_110 rfl (fun c7 => ?_) (fun c7 => ?_)
          · replace h := h.1 c7
            refine wg_bipush dX9_ofChain_122 qbipush_m4 ?_
            exact wp_iret rfl dX9_ofChain_124 ⟨Nat.le_refl _, Nat.le_refl _⟩ h
          · replace h := h.2 c7
            refine wg_aload_n dX9_ofChain_113 rfl (Nat.succ_ne_zero _) ?_
            refine wg_getRe dX9_ofChain_114 (fl_X9_50 rfl) rfl rfl (sm27 hS) ?_
            refine wg_iload_n dX9_ofChain_117 rfl ?_
            obtain ⟨o8, h⟩ := h
            refine wg_iald dX9_ofChain_118 rfl o8.1 o8.2 ?_
            refine wg_goto dX9_ofChain_119 rfl ?_
            exact wp_iret rfl dX9_ofChain_124 ⟨Nat.le_refl _, Nat.le_refl _⟩ h
        · replace h := h.2 c6
          refine wg_lload dX9_ofChain_99 rfl ?_
          refine wg_lload dX9_ofChain_101 rfl ?_
          obtain ⟨o1, h⟩ := h
          obtain ⟨o, h⟩ := h
          refine wg_ldiv dX9_ofChain_103 o1 o ?_
          obtain ⟨o, h⟩ := h
          refine wg_l2i dX9_ofChain_104 o ?_
          refine wg_goto dX9_ofChain_105 rfl ?_
          exact wp_iret rfl dX9_ofChain_124 ⟨Nat.le_refl _, Nat.le_refl _⟩ h
      · replace h := h.2 c5
        refine wg_lload_n dX9_ofChain_85 rfl ?_
        refine wg_lload dX9_ofChain_86 rfl ?_
        obtain ⟨o1, h⟩ := h
        obtain ⟨o, h⟩ := h
        refine wg_ldiv dX9_ofChain_88 o1 o ?_
        obtain ⟨o, h⟩ := h
        refine wg_l2i dX9_ofChain_89 o ?_
        refine wg_goto dX9_ofChain_90 rfl ?_
        exact wp_iret rfl dX9_ofChain_124 ⟨Nat.le_refl _, Nat.le_refl _⟩ h
    · replace h := h.2 c4
      refine wg_iload_n dX9_ofChain_75 rfl ?_
      refine wg_goto dX9_ofChain_76 rfl ?_
      exact wp_iret rfl dX9_ofChain_124 ⟨Nat.le_refl _, Nat.le_refl _⟩ h
  · replace h := h.2 c1
    refine wg_lload dX9_ofChain_14 rfl ?_
    refine wg_aload_n dX9_ofChain_16 rfl (Nat.succ_ne_zero _) ?_
    refine wg_getRe dX9_ofChain_17 (fl_X9_34 rfl) rfl rfl (sm16 hS) ?_
    refine wg_iconst dX9_ofChain_20 qiconst_4 ?_
    refine wg_aload_n dX9_ofChain_21 rfl (Nat.succ_ne_zero _) ?_
    refine wg_getRe dX9_ofChain_22 (fl_X9_50 rfl) rfl rfl (sm27 hS) ?_
    refine wg_iload dX9_ofChain_25 rfl ?_
    obtain ⟨o9, h⟩ := h
    refine wg_iald dX9_ofChain_27 rfl o9.1 o9.2 ?_
    obtain ⟨o, h⟩ := h
    refine wg_imul dX9_ofChain_28 o ?_
    refine wg_iconst dX9_ofChain_29 qiconst_2 ?_
    obtain ⟨o, h⟩ := h
    refine wg_iadd dX9_ofChain_30 o ?_
    obtain ⟨o10, h⟩ := h
    refine wg_iald dX9_ofChain_31 rfl o10.1 o10.2 ?_
    refine wg_i2l dX9_ofChain_32 ?_
    obtain ⟨o, h⟩ := h
    refine wg_lmul dX9_ofChain_33 o ?_
    refine wg_lstore (L' := [some (vR 96), some (vI a1), some (vI a2), some (vL s3), none, some (vL (s5 * (gI M 105 ((4 * (gI M 110 s7.toNat)) + 2).toNat))), none, some (vI s7), none]) dX9_ofChain_34 (Nat.le_of_ble_eq_true rfl) rfl ?_
    refine wg_lload_n dX9_ofChain_36 rfl ?_
    refine wg_aload_n dX9_ofChain_37 rfl (Nat.succ_ne_zero _) ?_
    refine wg_getRe dX9_ofChain_38 (fl_X9_34 rfl) rfl rfl (sm16 hS) ?_
    refine wg_iconst dX9_ofChain_41 qiconst_4 ?_
    refine wg_aload_n dX9_ofChain_42 rfl (Nat.succ_ne_zero _) ?_
    refine wg_getRe dX9_ofChain_43 (fl_X9_50 rfl) rfl rfl (sm27 hS) ?_
    refine wg_iload dX9_ofChain_46 rfl ?_
    refine wg_iald dX9_ofChain_48 rfl o9.1 o9.2 ?_
    obtain ⟨o, h⟩ := h
    refine wg_imul dX9_ofChain_49 o ?_
    refine wg_iconst dX9_ofChain_50 qiconst_3 ?_
    obtain ⟨o, h⟩ := h
    refine wg_iadd dX9_ofChain_51 o ?_
    obtain ⟨o11, h⟩ := h
    refine wg_iald dX9_ofChain_52 rfl o11.1 o11.2 ?_
    refine wg_i2l dX9_ofChain_53 ?_
    obtain ⟨o, h⟩ := h
    refine wg_lmul dX9_ofChain_54 o ?_
    refine wg_lstore_n (L' := [some (vR 96), some (vI a1), some (vI a2), some (vL (s3 * (gI M 105 ((4 * (gI M 110 s7.toNat)) + 3).toNat))), none, some (vL (s5 * (gI M 105 ((4 * (gI M 110 s7.toNat)) + 2).toNat))), none, some (vI s7), none]) dX9_ofChain_55 (Nat.le_of_ble_eq_true rfl) rfl ?_
    obtain ⟨o, h⟩ := h
    refine wg_iinc (L' := [some (vR 96), some (vI a1), some (vI a2), some (vL (s3 * (gI M 105 ((4 * (gI M 110 s7.toNat)) + 3).toNat))), none, some (vL (s5 * (gI M 105 ((4 * (gI M 110 s7.toNat)) + 2).toNat))), none, some (vI (s7 + 1)), none]) dX9_ofChain_56 (Nat.le_of_ble_eq_true rfl) rfl rfl o ?_
    refine wg_goto dX9_ofChain_59 rfl ?_
    exact h
set_option maxRecDepth 100000 in
theorem bX9_row_0 {G : GG} {d : Nat} {M : MM} {Q : Option AV → MM → Prop} (a1 : Int) (a2 : Int) (a3 : Int) (hS : ShM M) (h :
Ok G mX9_in d 0 0 [vL a1, vL 0, vL 9999] M (fun v M1 => ∃ r2 : Int, v = some (vI r2) ∧ ShM M1 ∧ 
((r2 = 0 →
(Q (some (vI (-1))) M1)) ∧
(¬ (r2 = 0) →
(Ok G mX9_in d 0 0 [vL a2, vL 1, vL 40] M1 (fun v M4 => ∃ r5 : Int, v = some (vI r5) ∧ ShM M4 ∧ 
((r5 = 0 →
(Q (some (vI (-1))) M4)) ∧
(¬ (r5 = 0) →
(Ok G mX9_in d 0 0 [vL a3, vL 0, vL 1] M4 (fun v M7 => ∃ r8 : Int, v = some (vI r8) ∧ ShM M7 ∧ 
((r8 ≠ 0 →
(Ok G mX9_copy d 0 0 [vR 96, vI 0, vI 13] M7 (fun v M10 => v = none ∧ ShM M10 ∧ 
(Wp G mX9_row (d + 1) 0 0 49 [some (vR 96), some (vI a1), some (vI a2), some (vI a3), some (vI 0), some (vI 0), none, none, none, none, none] [] M10 0 0 Q)))) ∧
(r8 = 0 →
(Q (some (vI (-1))) M7))))))))))))) :
  Wp G mX9_row (d + 1) 0 0 0 [some (vR 96), some (vI a1), some (vI a2), some (vI a3), none, none, none, none, none, none, none] [] M 0 0 Q := by
  refine wg_iload_n dX9_row_0 rfl ?_
  refine wg_i2l dX9_row_1 ?_
  refine wg_lconst dX9_row_2 rfl ?_
  refine wg_ldc2 dX9_row_3 kc_X9_294 ⟨by decide, by decide⟩ ?_
  refine wg_callS (I' := mX9_in) (np := 3) (d' := d) (as := [vL a1, vL 0, vL 9999]) (st := []) dX9_row_6 lk_X9_100 ci_X9_in rfl rfl (Nat.le_of_ble_eq_true rfl) (Nat.le_refl _) ⟨Nat.le_refl _, Nat.le_refl _⟩ h (fun v M1 h => ?_)
  obtain ⟨r2, rfl, hS, h⟩ := h
  refine wg_if_eq dX9_row_9 rfl (fun c3 => ?_) (fun c3 => ?_)
  · replace h := h.1 c3
    refine wg_iconst dX9_row_34 qiconst_m1 ?_
    exact wp_iret rfl dX9_row_35 ⟨Nat.le_refl _, Nat.le_refl _⟩ h
  · replace h := h.2 c3
    refine wg_iload_n dX9_row_12 rfl ?_
    refine wg_i2l dX9_row_13 ?_
    refine wg_lconst dX9_row_14 rfl ?_
    refine wg_ldc2 dX9_row_15 kc_X9_220 ⟨by decide, by decide⟩ ?_
    refine wg_callS (I' := mX9_in) (np := 3) (d' := d) (as := [vL a2, vL 1, vL 40]) (st := []) dX9_row_18 lk_X9_100 ci_X9_in rfl rfl (Nat.le_of_ble_eq_true rfl) (Nat.le_refl _) ⟨Nat.le_refl _, Nat.le_refl _⟩ h (fun v M4 h => ?_)
    obtain ⟨r5, rfl, hS, h⟩ := h
    refine wg_if_eq dX9_row_21 rfl (fun c6 => ?_) (fun c6 => ?_)
    · replace h := h.1 c6
      refine wg_iconst dX9_row_34 qiconst_m1 ?_
      exact wp_iret rfl dX9_row_35 ⟨Nat.le_refl _, Nat.le_refl _⟩ h
    · replace h := h.2 c6
      refine wg_iload_n dX9_row_24 rfl ?_
      refine wg_i2l dX9_row_25 ?_
      refine wg_lconst dX9_row_26 rfl ?_
      refine wg_lconst dX9_row_27 rfl ?_
      refine wg_callS (I' := mX9_in) (np := 3) (d' := d) (as := [vL a3, vL 0, vL 1]) (st := []) dX9_row_28 lk_X9_100 ci_X9_in rfl rfl (Nat.le_of_ble_eq_true rfl) (Nat.le_refl _) ⟨Nat.le_refl _, Nat.le_refl _⟩ h (fun v M7 h => ?_)
      obtain ⟨r8, rfl, hS, h⟩ := h
      refine wg_if_ne dX9_row_31 rfl (fun c9 => ?_) (fun c9 => ?_)
      · replace h := h.1 c9
        refine wg_aload_n dX9_row_36 rfl (Nat.succ_ne_zero _) ?_
        refine wg_iconst dX9_row_37 qiconst_0 ?_
        refine wg_bipush dX9_row_38 qbipush_13 ?_
        refine wg_callV (I' := mX9_copy) (ci := 9) (np := 2) (d' := d) (q := 96) (as := [vI 0, vI 13]) (st := []) dX9_row_40 lk_X9_204 ci_X9_copy rfl (Nat.le_of_ble_eq_true rfl) rfl rfl (Nat.le_of_ble_eq_true rfl) rfl (Nat.le_refl _) ⟨Nat.le_refl _, Nat.le_refl _⟩ h (fun v M10 h => ?_)
        obtain ⟨rfl, hS, h⟩ := h
        refine wg_iconst dX9_row_43 qiconst_0 ?_
        refine wg_istore (L' := [some (vR 96), some (vI a1), some (vI a2), some (vI a3), some (vI 0), none, none, none, none, none, none]) dX9_row_44 (Nat.le_of_ble_eq_true rfl) rfl ?_
        refine wg_iconst dX9_row_46 qiconst_0 ?_
        refine wg_istore (L' := [some (vR 96), some (vI a1), some (vI a2), some (vI a3), some (vI 0), some (vI 0), none, none, none, none, none]) dX9_row_47 (Nat.le_of_ble_eq_true rfl) rfl ?_
        exact h
      · replace h := h.2 c9
        refine wg_iconst dX9_row_34 qiconst_m1 ?_
        exact wp_iret rfl dX9_row_35 ⟨Nat.le_refl _, Nat.le_refl _⟩ h
set_option maxRecDepth 100000 in
theorem bX9_row_49 {G : GG} {d : Nat} {M : MM} {Q : Option AV → MM → Prop} (a1 : Int) (a2 : Int) (a3 : Int) (s4 : Int) (s5 : Int) (hS : ShM M) (h :
(a2 ≤ s5 →
((a3 ≠ 0 →
(Q (some (vI s4)) M)) ∧
(a3 = 0 →
(Ok G mX9_missedIn d 0 0 [vR 96, vI 13] M (fun v M3 => ∃ r4 : Int, v = some (vI r4) ∧ ShM M3 ∧ 
(Q (some (vI r4)) M3)))))) ∧
(¬ (a2 ≤ s5) →
(R64 (7919 * a1) ∧
(R64 (6151 * s5) ∧
(R64 ((7919 * a1) + (6151 * s5)) ∧
(R64 (((7919 * a1) + (6151 * s5)) + 1) ∧
(R64 ((((7919 * a1) + (6151 * s5)) + 1) * (((7919 * a1) + (6151 * s5)) + 1)) ∧
((R32 (Int.tmod ((((7919 * a1) + (6151 * s5)) + 1) * (((7919 * a1) + (6151 * s5)) + 1)) 65521) ∧
((gI M 96 13) ≠ 0 ∧
(R32 (13 + (Int.tmod (Int.tmod ((((7919 * a1) + (6151 * s5)) + 1) * (((7919 * a1) + (6151 * s5)) + 1)) 65521) (gI M 96 13))) ∧
(((0 : Int) ≤ 13 + (Int.tmod (Int.tmod ((((7919 * a1) + (6151 * s5)) + 1) * (((7919 * a1) + (6151 * s5)) + 1)) 65521) (gI M 96 13)) ∧ (13 + (Int.tmod (Int.tmod ((((7919 * a1) + (6151 * s5)) + 1) * (((7919 * a1) + (6151 * s5)) + 1)) 65521) (gI M 96 13)) : Int) < 156) ∧
(((gI M 97 (13 + (Int.tmod (Int.tmod ((((7919 * a1) + (6151 * s5)) + 1) * (((7919 * a1) + (6151 * s5)) + 1)) 65521) (gI M 96 13))).toNat) ≠ 0 →
(R32 (Int.tdiv (Int.tmod ((((7919 * a1) + (6151 * s5)) + 1) * (((7919 * a1) + (6151 * s5)) + 1)) 65521) 8) ∧
((((Int.tmod (Int.tdiv (Int.tmod ((((7919 * a1) + (6151 * s5)) + 1) * (((7919 * a1) + (6151 * s5)) + 1)) 65521) 8) 4) ≠ 0 →
(Ok G mX9_dayIn d 0 0 [vR 96, vI 13] M (fun v M8 => ∃ r9 : Int, v = some (vI r9) ∧ ShM M8 ∧ 
(R32 (s4 + r9) ∧
(R32 (s5 + 1) ∧
(Wp G mX9_row (d + 1) 0 0 49 [some (vR 96), some (vI a1), some (vI a2), some (vI a3), some (vI (s4 + r9)), some (vI (s5 + 1)), none, none, none, none, none] [] M8 0 0 Q)))))) ∧
((Int.tmod (Int.tdiv (Int.tmod ((((7919 * a1) + (6151 * s5)) + 1) * (((7919 * a1) + (6151 * s5)) + 1)) 65521) 8) 4) = 0 →
(Ok G mX9_bindIn d 0 0 [vR 96, vI 13, vI (Int.tmod (Int.tmod ((((7919 * a1) + (6151 * s5)) + 1) * (((7919 * a1) + (6151 * s5)) + 1)) 65521) (gI M 96 13)), vI 0] M (fun v M10 => v = none ∧ ShM M10 ∧ 
(Ok G mX9_dayIn d 0 0 [vR 96, vI 13] M10 (fun v M11 => ∃ r12 : Int, v = some (vI r12) ∧ ShM M11 ∧ 
(R32 (s4 + r12) ∧
(R32 (s5 + 1) ∧
(Wp G mX9_row (d + 1) 0 0 49 [some (vR 96), some (vI a1), some (vI a2), some (vI a3), some (vI (s4 + r12)), some (vI (s5 + 1)), none, none, none, none, none] [] M11 0 0 Q)))))))))))) ∧
((gI M 97 (13 + (Int.tmod (Int.tmod ((((7919 * a1) + (6151 * s5)) + 1) * (((7919 * a1) + (6151 * s5)) + 1)) 65521) (gI M 96 13))).toNat) = 0 →
(((0 : Int) ≤ Int.tmod (Int.tmod ((((7919 * a1) + (6151 * s5)) + 1) * (((7919 * a1) + (6151 * s5)) + 1)) 65521) (gI M 96 13) ∧ (Int.tmod (Int.tmod ((((7919 * a1) + (6151 * s5)) + 1) * (((7919 * a1) + (6151 * s5)) + 1)) 65521) (gI M 96 13) : Int) < 4) ∧
(Ok G mX9_leastIn d 0 0 [vR 96, vI 13, vI (gI M 104 (Int.tmod (Int.tmod ((((7919 * a1) + (6151 * s5)) + 1) * (((7919 * a1) + (6151 * s5)) + 1)) 65521) (gI M 96 13)).toNat)] M (fun v M14 => ∃ r15 : Int, v = some (vI r15) ∧ ShM M14 ∧ 
(Ok G mX9_bindIn d 0 0 [vR 96, vI 13, vI (Int.tmod (Int.tmod ((((7919 * a1) + (6151 * s5)) + 1) * (((7919 * a1) + (6151 * s5)) + 1)) 65521) (gI M 96 13)), vI (if r15 = (-4) then (0 : Int) else r15)] M14 (fun v M17 => v = none ∧ ShM M17 ∧ 
(Ok G mX9_dayIn d 0 0 [vR 96, vI 13] M17 (fun v M18 => ∃ r19 : Int, v = some (vI r19) ∧ ShM M18 ∧ 
(R32 (s4 + r19) ∧
(R32 (s5 + 1) ∧
(Wp G mX9_row (d + 1) 0 0 49 [some (vR 96), some (vI a1), some (vI a2), some (vI a3), some (vI (s4 + r19)), some (vI (s5 + 1)), none, none, none, none, none] [] M18 0 0 Q)))))))))))))))))))))))) :
  Wp G mX9_row (d + 1) 0 0 49 [some (vR 96), some (vI a1), some (vI a2), some (vI a3), some (vI s4), some (vI s5), none, none, none, none, none] [] M 0 0 Q := by
  refine wg_iload dX9_row_49 rfl ?_
  refine wg_iload_n dX9_row_51 rfl ?_
  refine wg_icmp_ge dX9_row_52 rfl (fun c1 => ?_) (fun c1 => ?_)
  · replace h := h.1 c1
    refine wg_iload_n dX9_row_182 rfl ?_
    refine wg_if_ne dX9_row_183 rfl (fun c2 => ?_) (fun c2 => ?_)
    · replace h := h.1 c2
      refine wg_iload dX9_row_195 rfl ?_
      exact wp_iret rfl dX9_row_197 ⟨Nat.le_refl _, Nat.le_refl _⟩ h
    · replace h := h.2 c2
      refine wg_aload_n dX9_row_186 rfl (Nat.succ_ne_zero _) ?_
      refine wg_bipush dX9_row_187 qbipush_13 ?_
      refine wg_callV (I' := mX9_missedIn) (ci := 9) (np := 1) (d' := d) (q := 96) (as := [vI 13]) (st := []) dX9_row_189 lk_X9_201 ci_X9_missedIn rfl (Nat.le_of_ble_eq_true rfl) rfl rfl (Nat.le_of_ble_eq_true rfl) rfl (Nat.le_refl _) ⟨Nat.le_refl _, Nat.le_refl _⟩ h (fun v M3 h => ?_)
      obtain ⟨r4, rfl, hS, h⟩ := h
      refine wg_goto dX9_row_192 rfl ?_
      exact wp_iret rfl dX9_row_197 ⟨Nat.le_refl _, Nat.le_refl _⟩ h
  · replace h := h.2 c1
    refine wg_ldc2 dX9_row_55 kc_X9_296 ⟨by decide, by decide⟩ ?_
    refine wg_iload_n dX9_row_58 rfl ?_
    refine wg_i2l dX9_row_59 ?_
    obtain ⟨o, h⟩ := h
    refine wg_lmul dX9_row_60 o ?_
    refine wg_ldc2 dX9_row_61 kc_X9_298 ⟨by decide, by decide⟩ ?_
    refine wg_iload dX9_row_64 rfl ?_
    refine wg_i2l dX9_row_66 ?_
    obtain ⟨o, h⟩ := h
    refine wg_lmul dX9_row_67 o ?_
    obtain ⟨o, h⟩ := h
    refine wg_ladd dX9_row_68 o ?_
    refine wg_lconst dX9_row_69 rfl ?_
    obtain ⟨o, h⟩ := h
    refine wg_ladd dX9_row_70 o ?_
    refine wg_lstore (L' := [some (vR 96), some (vI a1), some (vI a2), some (vI a3), some (vI s4), some (vI s5), some (vL (((7919 * a1) + (6151 * s5)) + 1)), none, none, none, none]) dX9_row_71 (Nat.le_of_ble_eq_true rfl) rfl ?_
    refine wg_lload dX9_row_73 rfl ?_
    refine wg_lload dX9_row_75 rfl ?_
    obtain ⟨o, h⟩ := h
    refine wg_lmul dX9_row_77 o ?_
    refine wg_ldc2 dX9_row_78 kc_X9_300 ⟨by decide, by decide⟩ ?_
    refine wg_lrem dX9_row_81 (by decide) ?_
    obtain ⟨o, h⟩ := h
    refine wg_l2i dX9_row_82 o ?_
    refine wg_istore (L' := [some (vR 96), some (vI a1), some (vI a2), some (vI a3), some (vI s4), some (vI s5), some (vL (((7919 * a1) + (6151 * s5)) + 1)), none, some (vI (Int.tmod ((((7919 * a1) + (6151 * s5)) + 1) * (((7919 * a1) + (6151 * s5)) + 1)) 65521)), none, none]) dX9_row_83 (Nat.le_of_ble_eq_true rfl) rfl ?_
    refine wg_iload dX9_row_85 rfl ?_
    refine wg_aload_n dX9_row_87 rfl (Nat.succ_ne_zero _) ?_
    refine wg_getI dX9_row_88 (fl_X9_84 rfl) rfl rfl ?_
    obtain ⟨o1, h⟩ := h
    refine wg_irem dX9_row_91 o1 ?_
    refine wg_istore (L' := [some (vR 96), some (vI a1), some (vI a2), some (vI a3), some (vI s4), some (vI s5), some (vL (((7919 * a1) + (6151 * s5)) + 1)), none, some (vI (Int.tmod ((((7919 * a1) + (6151 * s5)) + 1) * (((7919 * a1) + (6151 * s5)) + 1)) 65521)), some (vI (Int.tmod (Int.tmod ((((7919 * a1) + (6151 * s5)) + 1) * (((7919 * a1) + (6151 * s5)) + 1)) 65521) (gI M 96 13))), none]) dX9_row_92 (Nat.le_of_ble_eq_true rfl) rfl ?_
    refine wg_aload_n dX9_row_94 rfl (Nat.succ_ne_zero _) ?_
    refine wg_getRe dX9_row_95 (fl_X9_7 rfl) rfl rfl (sm0 hS) ?_
    refine wg_bipush dX9_row_98 qbipush_13 ?_
    refine wg_iload dX9_row_100 rfl ?_
    obtain ⟨o, h⟩ := h
    refine wg_iadd dX9_row_102 o ?_
    obtain ⟨o5, h⟩ := h
    refine wg_iald dX9_row_103 rfl o5.1 o5.2 ?_
    refine wg_if_ne dX9_row_104 rfl (fun c6 => ?_) (fun c6 => ?_)
    · replace h := h.1 c6
      refine wg_iload dX9_row_146 rfl ?_
      refine wg_bipush dX9_row_148 qbipush_8 ?_
      obtain ⟨o, h⟩ := h
      refine wg_idiv dX9_row_150 (by decide) o ?_
      refine wg_iconst dX9_row_151 qiconst_4 ?_
      refine wg_irem dX9_row_152 (by decide) ?_
      refine wg_if_ne dX9_row_153 rfl (fun c7 => ?_) (fun c7 => ?_)
      · replace h := h.1 c7
        refine wg_iload dX9_row_165 rfl ?_
        refine wg_aload_n dX9_row_167 rfl (Nat.succ_ne_zero _) ?_
        refine wg_bipush dX9_row_168 qbipush_13 ?_
        refine wg_callV (I' := mX9_dayIn) (ci := 9) (np := 1) (d' := d) (q := 96) (as := [vI 13]) (st := [vI s4]) dX9_row_170 lk_X9_222 ci_X9_dayIn rfl (Nat.le_of_ble_eq_true rfl) rfl rfl (Nat.le_of_ble_eq_true rfl) rfl (Nat.le_refl _) ⟨Nat.le_refl _, Nat.le_refl _⟩ h (fun v M8 h => ?_)
        obtain ⟨r9, rfl, hS, h⟩ := h
        obtain ⟨o, h⟩ := h
        refine wg_iadd dX9_row_173 o ?_
        refine wg_istore (L' := [some (vR 96), some (vI a1), some (vI a2), some (vI a3), some (vI (s4 + r9)), some (vI s5), some (vL (((7919 * a1) + (6151 * s5)) + 1)), none, some (vI (Int.tmod ((((7919 * a1) + (6151 * s5)) + 1) * (((7919 * a1) + (6151 * s5)) + 1)) 65521)), some (vI (Int.tmod (Int.tmod ((((7919 * a1) + (6151 * s5)) + 1) * (((7919 * a1) + (6151 * s5)) + 1)) 65521) (gI M 96 13))), none]) dX9_row_174 (Nat.le_of_ble_eq_true rfl) rfl ?_
        obtain ⟨o, h⟩ := h
        refine wg_iinc (L' := [some (vR 96), some (vI a1), some (vI a2), some (vI a3), some (vI (s4 + r9)), some (vI (s5 + 1)), some (vL (((7919 * a1) + (6151 * s5)) + 1)), none, some (vI (Int.tmod ((((7919 * a1) + (6151 * s5)) + 1) * (((7919 * a1) + (6151 * s5)) + 1)) 65521)), some (vI (Int.tmod (Int.tmod ((((7919 * a1) + (6151 * s5)) + 1) * (((7919 * a1) + (6151 * s5)) + 1)) 65521) (gI M 96 13))), none]) dX9_row_176 (Nat.le_of_ble_eq_true rfl) rfl rfl o ?_
        refine wg_goto dX9_row_179 rfl ?_
        refine wg_weak [true, true, true, true, true, true, false, false, false, false, false] rfl ?_
        exact h
      · replace h := h.2 c7
        refine wg_aload_n dX9_row_156 rfl (Nat.succ_ne_zero _) ?_
        refine wg_bipush dX9_row_157 qbipush_13 ?_
        refine wg_iload dX9_row_159 rfl ?_
        refine wg_iconst dX9_row_161 qiconst_0 ?_
        refine wg_callV (I' := mX9_bindIn) (ci := 9) (np := 3) (d' := d) (q := 96) (as := [vI 13, vI (Int.tmod (Int.tmod ((((7919 * a1) + (6151 * s5)) + 1) * (((7919 * a1) + (6151 * s5)) + 1)) 65521) (gI M 96 13)), vI 0]) (st := []) dX9_row_162 lk_X9_210 ci_X9_bindIn rfl (Nat.le_of_ble_eq_true rfl) rfl rfl (Nat.le_of_ble_eq_true rfl) rfl (Nat.le_refl _) ⟨Nat.le_refl _, Nat.le_refl _⟩ h (fun v M10 h => ?_)
        obtain ⟨rfl, hS, h⟩ := h
        refine wg_iload dX9_row_165 rfl ?_
        refine wg_aload_n dX9_row_167 rfl (Nat.succ_ne_zero _) ?_
        refine wg_bipush dX9_row_168 qbipush_13 ?_
        refine wg_callV (I' := mX9_dayIn) (ci := 9) (np := 1) (d' := d) (q := 96) (as := [vI 13]) (st := [vI s4]) dX9_row_170 lk_X9_222 ci_X9_dayIn rfl (Nat.le_of_ble_eq_true rfl) rfl rfl (Nat.le_of_ble_eq_true rfl) rfl (Nat.le_refl _) ⟨Nat.le_refl _, Nat.le_refl _⟩ h (fun v M11 h => ?_)
        obtain ⟨r12, rfl, hS, h⟩ := h
        obtain ⟨o, h⟩ := h
        refine wg_iadd dX9_row_173 o ?_
        refine wg_istore (L' := [some (vR 96), some (vI a1), some (vI a2), some (vI a3), some (vI (s4 + r12)), some (vI s5), some (vL (((7919 * a1) + (6151 * s5)) + 1)), none, some (vI (Int.tmod ((((7919 * a1) + (6151 * s5)) + 1) * (((7919 * a1) + (6151 * s5)) + 1)) 65521)), some (vI (Int.tmod (Int.tmod ((((7919 * a1) + (6151 * s5)) + 1) * (((7919 * a1) + (6151 * s5)) + 1)) 65521) (gI M 96 13))), none]) dX9_row_174 (Nat.le_of_ble_eq_true rfl) rfl ?_
        obtain ⟨o, h⟩ := h
        refine wg_iinc (L' := [some (vR 96), some (vI a1), some (vI a2), some (vI a3), some (vI (s4 + r12)), some (vI (s5 + 1)), some (vL (((7919 * a1) + (6151 * s5)) + 1)), none, some (vI (Int.tmod ((((7919 * a1) + (6151 * s5)) + 1) * (((7919 * a1) + (6151 * s5)) + 1)) 65521)), some (vI (Int.tmod (Int.tmod ((((7919 * a1) + (6151 * s5)) + 1) * (((7919 * a1) + (6151 * s5)) + 1)) 65521) (gI M 96 13))), none]) dX9_row_176 (Nat.le_of_ble_eq_true rfl) rfl rfl o ?_
        refine wg_goto dX9_row_179 rfl ?_
        refine wg_weak [true, true, true, true, true, true, false, false, false, false, false] rfl ?_
        exact h
    · replace h := h.2 c6
      refine wg_aload_n dX9_row_107 rfl (Nat.succ_ne_zero _) ?_
      refine wg_bipush dX9_row_108 qbipush_13 ?_
      refine wg_aload_n dX9_row_110 rfl (Nat.succ_ne_zero _) ?_
      refine wg_getRe dX9_row_111 (fl_X9_31 rfl) rfl rfl (sm14 hS) ?_
      refine wg_iload dX9_row_114 rfl ?_
      obtain ⟨o13, h⟩ := h
      refine wg_iald dX9_row_116 rfl o13.1 o13.2 ?_
      refine wg_callV (I' := mX9_leastIn) (ci := 9) (np := 2) (d' := d) (q := 96) (as := [vI 13, vI (gI M 104 (Int.tmod (Int.tmod ((((7919 * a1) + (6151 * s5)) + 1) * (((7919 * a1) + (6151 * s5)) + 1)) 65521) (gI M 96 13)).toNat)]) (st := []) dX9_row_117 lk_X9_229 ci_X9_leastIn rfl (Nat.le_of_ble_eq_true rfl) rfl rfl (Nat.le_of_ble_eq_true rfl) rfl (Nat.le_refl _) ⟨Nat.le_refl _, Nat.le_refl _⟩ h (fun v M14 h => ?_)
      obtain ⟨r15, rfl, hS, h⟩ := h
      refine wg_istore (L' := [some (vR 96), some (vI a1), some (vI a2), some (vI a3), some (vI s4), some (vI s5), some (vL (((7919 * a1) + (6151 * s5)) + 1)), none, some (vI (Int.tmod ((((7919 * a1) + (6151 * s5)) + 1) * (((7919 * a1) + (6151 * s5)) + 1)) 65521)), some (vI (Int.tmod (Int.tmod ((((7919 * a1) + (6151 * s5)) + 1) * (((7919 * a1) + (6151 * s5)) + 1)) 65521) (gI M 96 13))), some (vI r15)]) dX9_row_120 (Nat.le_of_ble_eq_true rfl) rfl ?_
      refine wg_aload_n dX9_row_122 rfl (Nat.succ_ne_zero _) ?_
      refine wg_bipush dX9_row_123 qbipush_13 ?_
      refine wg_iload dX9_row_125 rfl ?_
      refine wg_iload dX9_row_127 rfl ?_
      refine wg_bipush dX9_row_129 qbipush_m4 ?_
      have hJ20 : Wp G mX9_row (d + 1) 0 0 140 [some (vR 96), some (vI a1), some (vI a2), some (vI a3), some (vI s4), some (vI s5), some (vL (((7919 * a1) + (6151 * s5)) + 1)), none, some (vI (Int.tmod ((((7919 * a1) + (6151 * s5)) + 1) * (((7919 * a1) + (6151 * s5)) + 1)) 65521)), some (vI (Int.tmod (Int.tmod ((((7919 * a1) + (6151 * s5)) + 1) * (((7919 * a1) + (6151 * s5)) + 1)) 65521) (gI M 96 13))), some (vI r15)] [vI (if r15 = (-4) then (0 : Int) else r15), vI (Int.tmod (Int.tmod ((((7919 * a1) + (6151 * s5)) + 1) * (((7919 * a1) + (6151 * s5)) + 1)) 65521) (gI M 96 13)), vI 13, vR 96] M14 0 0 Q := by
        refine wg_callV (I' := mX9_bindIn) (ci := 9) (np := 3) (d' := d) (q := 96) (as := [vI 13, vI (Int.tmod (Int.tmod ((((7919 * a1) + (6151 * s5)) + 1) * (((7919 * a1) + (6151 * s5)) + 1)) 65521) (gI M 96 13)), vI (if r15 = (-4) then (0 : Int) else r15)]) (st := []) dX9_row_140 lk_X9_210 ci_X9_bindIn rfl (Nat.le_of_ble_eq_true rfl) rfl rfl (Nat.le_of_ble_eq_true rfl) rfl (Nat.le_refl _) ⟨Nat.le_refl _, Nat.le_refl _⟩ h (fun v M17 h => ?_)
        obtain ⟨rfl, hS, h⟩ := h
        refine wg_goto dX9_row_143 rfl ?_
        refine wg_iload dX9_row_165 rfl ?_
        refine wg_aload_n dX9_row_167 rfl (Nat.succ_ne_zero _) ?_
        refine wg_bipush dX9_row_168 qbipush_13 ?_
        refine wg_callV (I' := mX9_dayIn) (ci := 9) (np := 1) (d' := d) (q := 96) (as := [vI 13]) (st := [vI s4]) dX9_row_170 lk_X9_222 ci_X9_dayIn rfl (Nat.le_of_ble_eq_true rfl) rfl rfl (Nat.le_of_ble_eq_true rfl) rfl (Nat.le_refl _) ⟨Nat.le_refl _, Nat.le_refl _⟩ h (fun v M18 h => ?_)
        obtain ⟨r19, rfl, hS, h⟩ := h
        obtain ⟨o, h⟩ := h
        refine wg_iadd dX9_row_173 o ?_
        refine wg_istore (L' := [some (vR 96), some (vI a1), some (vI a2), some (vI a3), some (vI (s4 + r19)), some (vI s5), some (vL (((7919 * a1) + (6151 * s5)) + 1)), none, some (vI (Int.tmod ((((7919 * a1) + (6151 * s5)) + 1) * (((7919 * a1) + (6151 * s5)) + 1)) 65521)), some (vI (Int.tmod (Int.tmod ((((7919 * a1) + (6151 * s5)) + 1) * (((7919 * a1) + (6151 * s5)) + 1)) 65521) (gI M 96 13))), some (vI r15)]) dX9_row_174 (Nat.le_of_ble_eq_true rfl) rfl ?_
        obtain ⟨o, h⟩ := h
        refine wg_iinc (L' := [some (vR 96), some (vI a1), some (vI a2), some (vI a3), some (vI (s4 + r19)), some (vI (s5 + 1)), some (vL (((7919 * a1) + (6151 * s5)) + 1)), none, some (vI (Int.tmod ((((7919 * a1) + (6151 * s5)) + 1) * (((7919 * a1) + (6151 * s5)) + 1)) 65521)), some (vI (Int.tmod (Int.tmod ((((7919 * a1) + (6151 * s5)) + 1) * (((7919 * a1) + (6151 * s5)) + 1)) 65521) (gI M 96 13))), some (vI r15)]) dX9_row_176 (Nat.le_of_ble_eq_true rfl) rfl rfl o ?_
        refine wg_goto dX9_row_179 rfl ?_
        refine wg_weak [true, true, true, true, true, true, false, false, false, false, false] rfl ?_
        exact h
      refine wg_icmp_ne dX9_row_131 rfl (fun c16 => ?_) (fun c16 => ?_)
      · rw [show (if r15 = (-4) then (0 : Int) else r15) = r15 from if_neg c16] at hJ20
        refine wg_iload dX9_row_138 rfl ?_
        exact hJ20
      · rw [show (if r15 = (-4) then (0 : Int) else r15) = 0 from if_pos c16] at hJ20
        refine wg_iconst dX9_row_134 qiconst_0 ?_
        refine wg_goto dX9_row_135 rfl ?_
        exact hJ20
set_option maxRecDepth 100000 in
theorem bX9_keep_0 {G : GG} {d : Nat} {M : MM} {Q : Option AV → MM → Prop} (hS : ShM M) (h :
((gI M 96 2) ≠ 2 →
(R32 (13 * (gI M 96 2)) ∧
(R32 (26 + (13 * (gI M 96 2))) ∧
(Ok G mX9_copy d 0 0 [vR 96, vI 0, vI (26 + (13 * (gI M 96 2)))] M (fun v M2 => v = none ∧ ShM M2 ∧ 
(R32 ((gI M2 96 2) + 1) ∧
(∀ M3 : MM, M3 = stI M2 96 2 ((gI M2 96 2) + 1) →
(Q (some (vI (gI M3 96 2))) M3)))))))) ∧
((gI M 96 2) = 2 →
(Q (some (vI (-3))) M))) :
  Wp G mX9_keep (d + 1) 0 0 0 [some (vR 96)] [] M 0 0 Q := by
  refine wg_aload_n dX9_keep_0 rfl (Nat.succ_ne_zero _) ?_
  refine wg_getI dX9_keep_1 (fl_X9_93 rfl) rfl rfl ?_
  refine wg_iconst dX9_keep_4 qiconst_2 ?_
  refine wg_icmp_ne dX9_keep_5 rfl (fun c1 => ?_) (fun c1 => ?_)
  · replace h := h.1 c1
    refine wg_aload_n dX9_keep_11 rfl (Nat.succ_ne_zero _) ?_
    refine wg_iconst dX9_keep_12 qiconst_0 ?_
    refine wg_bipush dX9_keep_13 qbipush_26 ?_
    refine wg_bipush dX9_keep_15 qbipush_13 ?_
    refine wg_aload_n dX9_keep_17 rfl (Nat.succ_ne_zero _) ?_
    refine wg_getI dX9_keep_18 (fl_X9_93 rfl) rfl rfl ?_
    obtain ⟨o, h⟩ := h
    refine wg_imul dX9_keep_21 o ?_
    obtain ⟨o, h⟩ := h
    refine wg_iadd dX9_keep_22 o ?_
    refine wg_callV (I' := mX9_copy) (ci := 9) (np := 2) (d' := d) (q := 96) (as := [vI 0, vI (26 + (13 * (gI M 96 2)))]) (st := []) dX9_keep_23 lk_X9_204 ci_X9_copy rfl (Nat.le_of_ble_eq_true rfl) rfl rfl (Nat.le_of_ble_eq_true rfl) rfl (Nat.le_refl _) ⟨Nat.le_refl _, Nat.le_refl _⟩ h (fun v M2 h => ?_)
    obtain ⟨rfl, hS, h⟩ := h
    refine wg_aload_n dX9_keep_26 rfl (Nat.succ_ne_zero _) ?_
    refine wg_dup dX9_keep_27 rfl ?_
    refine wg_getI dX9_keep_28 (fl_X9_93 rfl) rfl rfl ?_
    refine wg_iconst dX9_keep_31 qiconst_1 ?_
    obtain ⟨o, h⟩ := h
    refine wg_iadd dX9_keep_32 o ?_
    refine wg_putI dX9_keep_33 (fl_X9_93 rfl) rfl rfl rfl ?_
    generalize hM : stI M2 96 2 ((gI M2 96 2) + 1) = M3
    replace h := h _ hM.symm
    replace hS : ShM M3 := by rw [← hM]; exact hS
    clear hM
    refine wg_aload_n dX9_keep_36 rfl (Nat.succ_ne_zero _) ?_
    refine wg_getI dX9_keep_37 (fl_X9_93 rfl) rfl rfl ?_
    exact wp_iret rfl dX9_keep_40 ⟨Nat.le_refl _, Nat.le_refl _⟩ h
  · replace h := h.2 c1
    refine wg_bipush dX9_keep_8 qbipush_m3 ?_
    exact wp_iret rfl dX9_keep_10 ⟨Nat.le_refl _, Nat.le_refl _⟩ h
set_option maxRecDepth 100000 in
theorem bX9_restore_0 {G : GG} {d : Nat} {M : MM} {Q : Option AV → MM → Prop} (hS : ShM M) (h :
((gI M 96 2) ≠ 0 →
(R32 ((gI M 96 2) - 1) ∧
(∀ M2 : MM, M2 = stI M 96 2 ((gI M 96 2) - 1) →
(R32 (13 * (gI M2 96 2)) ∧
(R32 (26 + (13 * (gI M2 96 2))) ∧
(Ok G mX9_copy d 0 0 [vR 96, vI (26 + (13 * (gI M2 96 2))), vI 0] M2 (fun v M3 => v = none ∧ ShM M3 ∧ 
(∀ M4 : MM, M4 = stI M3 96 1 0 →
(Q (some (vI (gI M4 96 2))) M4))))))))) ∧
((gI M 96 2) = 0 →
(Q (some (vI (-2))) M))) :
  Wp G mX9_restore (d + 1) 0 0 0 [some (vR 96)] [] M 0 0 Q := by
  refine wg_aload_n dX9_restore_0 rfl (Nat.succ_ne_zero _) ?_
  refine wg_getI dX9_restore_1 (fl_X9_93 rfl) rfl rfl ?_
  refine wg_if_ne dX9_restore_4 rfl (fun c1 => ?_) (fun c1 => ?_)
  · replace h := h.1 c1
    refine wg_aload_n dX9_restore_10 rfl (Nat.succ_ne_zero _) ?_
    refine wg_dup dX9_restore_11 rfl ?_
    refine wg_getI dX9_restore_12 (fl_X9_93 rfl) rfl rfl ?_
    refine wg_iconst dX9_restore_15 qiconst_1 ?_
    obtain ⟨o, h⟩ := h
    refine wg_isub dX9_restore_16 o ?_
    refine wg_putI dX9_restore_17 (fl_X9_93 rfl) rfl rfl rfl ?_
    generalize hM : stI M 96 2 ((gI M 96 2) - 1) = M2
    replace h := h _ hM.symm
    replace hS : ShM M2 := by rw [← hM]; exact hS
    clear hM
    refine wg_aload_n dX9_restore_20 rfl (Nat.succ_ne_zero _) ?_
    refine wg_bipush dX9_restore_21 qbipush_26 ?_
    refine wg_bipush dX9_restore_23 qbipush_13 ?_
    refine wg_aload_n dX9_restore_25 rfl (Nat.succ_ne_zero _) ?_
    refine wg_getI dX9_restore_26 (fl_X9_93 rfl) rfl rfl ?_
    obtain ⟨o, h⟩ := h
    refine wg_imul dX9_restore_29 o ?_
    obtain ⟨o, h⟩ := h
    refine wg_iadd dX9_restore_30 o ?_
    refine wg_iconst dX9_restore_31 qiconst_0 ?_
    refine wg_callV (I' := mX9_copy) (ci := 9) (np := 2) (d' := d) (q := 96) (as := [vI (26 + (13 * (gI M2 96 2))), vI 0]) (st := []) dX9_restore_32 lk_X9_204 ci_X9_copy rfl (Nat.le_of_ble_eq_true rfl) rfl rfl (Nat.le_of_ble_eq_true rfl) rfl (Nat.le_refl _) ⟨Nat.le_refl _, Nat.le_refl _⟩ h (fun v M3 h => ?_)
    obtain ⟨rfl, hS, h⟩ := h
    refine wg_aload_n dX9_restore_35 rfl (Nat.succ_ne_zero _) ?_
    refine wg_iconst dX9_restore_36 qiconst_0 ?_
    refine wg_putI dX9_restore_37 (fl_X9_90 rfl) rfl rfl rfl ?_
    generalize hM : stI M3 96 1 0 = M4
    replace h := h _ hM.symm
    replace hS : ShM M4 := by rw [← hM]; exact hS
    clear hM
    refine wg_aload_n dX9_restore_40 rfl (Nat.succ_ne_zero _) ?_
    refine wg_getI dX9_restore_41 (fl_X9_93 rfl) rfl rfl ?_
    exact wp_iret rfl dX9_restore_44 ⟨Nat.le_refl _, Nat.le_refl _⟩ h
  · replace h := h.2 c1
    refine wg_bipush dX9_restore_7 qbipush_m2 ?_
    exact wp_iret rfl dX9_restore_9 ⟨Nat.le_refl _, Nat.le_refl _⟩ h
set_option maxRecDepth 100000 in
theorem bX9_count_0 {G : GG} {d : Nat} {M : MM} {Q : Option AV → MM → Prop} (a1 : Int) (hS : ShM M) (h :
(a1 = 0 →
(Q (some (vI (gI M 96 5))) M)) ∧
(a1 = 1 →
(Q (some (vI (gI M 96 9))) M)) ∧
(a1 = 2 →
(Q (some (vI (gI M 96 10))) M)) ∧
(a1 = 3 →
(Q (some (vI (gI M 96 13))) M)) ∧
(a1 = 4 →
(Q (some (vI (gI M 96 15))) M)) ∧
(a1 = 5 →
((Q (some (vI (gI M 97 12))) M))) ∧
(a1 = 6 →
(Q (some (vI (gI M 96 1))) M)) ∧
(a1 = 7 →
(Q (some (vI (gI M 96 2))) M)) ∧
(a1 = 8 →
(Q (some (vI (gI M 96 4))) M)) ∧
((a1 < 0 ∨ 8 < a1) →
(Q (some (vI (-1))) M))) :
  Wp G mX9_count d 0 0 0 [some (vR 96), some (vI a1)] [] M 0 0 Q := by
  refine wg_iload_n dX9_count_0 rfl ?_
  by_cases c0 : a1 = 0
  · replace h := h.1 c0
    refine wg_tableIn dX9_count_1 (by omega) (by omega) (off := 51) (by rw [c0]; decide) rfl ?_
    refine wg_aload_n dX9_count_52 rfl (Nat.succ_ne_zero _) ?_
    refine wg_getI dX9_count_53 (fl_X9_74 rfl) rfl rfl ?_
    exact wp_iret rfl dX9_count_56 ⟨Nat.le_refl _, Nat.le_refl _⟩ h
  by_cases c1 : a1 = 1
  · replace h := h.2.1 c1
    refine wg_tableIn dX9_count_1 (by omega) (by omega) (off := 56) (by rw [c1]; decide) rfl ?_
    refine wg_aload_n dX9_count_57 rfl (Nat.succ_ne_zero _) ?_
    refine wg_getI dX9_count_58 (fl_X9_78 rfl) rfl rfl ?_
    exact wp_iret rfl dX9_count_61 ⟨Nat.le_refl _, Nat.le_refl _⟩ h
  by_cases c2 : a1 = 2
  · replace h := h.2.2.1 c2
    refine wg_tableIn dX9_count_1 (by omega) (by omega) (off := 61) (by rw [c2]; decide) rfl ?_
    refine wg_aload_n dX9_count_62 rfl (Nat.succ_ne_zero _) ?_
    refine wg_getI dX9_count_63 (fl_X9_81 rfl) rfl rfl ?_
    exact wp_iret rfl dX9_count_66 ⟨Nat.le_refl _, Nat.le_refl _⟩ h
  by_cases c3 : a1 = 3
  · replace h := h.2.2.2.1 c3
    refine wg_tableIn dX9_count_1 (by omega) (by omega) (off := 66) (by rw [c3]; decide) rfl ?_
    refine wg_aload_n dX9_count_67 rfl (Nat.succ_ne_zero _) ?_
    refine wg_getI dX9_count_68 (fl_X9_84 rfl) rfl rfl ?_
    exact wp_iret rfl dX9_count_71 ⟨Nat.le_refl _, Nat.le_refl _⟩ h
  by_cases c4 : a1 = 4
  · replace h := h.2.2.2.2.1 c4
    refine wg_tableIn dX9_count_1 (by omega) (by omega) (off := 71) (by rw [c4]; decide) rfl ?_
    refine wg_aload_n dX9_count_72 rfl (Nat.succ_ne_zero _) ?_
    refine wg_getI dX9_count_73 (fl_X9_87 rfl) rfl rfl ?_
    exact wp_iret rfl dX9_count_76 ⟨Nat.le_refl _, Nat.le_refl _⟩ h
  by_cases c5 : a1 = 5
  · replace h := h.2.2.2.2.2.1 c5
    refine wg_tableIn dX9_count_1 (by omega) (by omega) (off := 76) (by rw [c5]; decide) rfl ?_
    refine wg_aload_n dX9_count_77 rfl (Nat.succ_ne_zero _) ?_
    refine wg_getRe dX9_count_78 (fl_X9_7 rfl) rfl rfl (sm0 hS) ?_
    refine wg_bipush dX9_count_81 qbipush_12 ?_
    refine wg_iald dX9_count_83 rfl (by decide) (by decide) ?_
    exact wp_iret rfl dX9_count_84 ⟨Nat.le_refl _, Nat.le_refl _⟩ h
  by_cases c6 : a1 = 6
  · replace h := h.2.2.2.2.2.2.1 c6
    refine wg_tableIn dX9_count_1 (by omega) (by omega) (off := 84) (by rw [c6]; decide) rfl ?_
    refine wg_aload_n dX9_count_85 rfl (Nat.succ_ne_zero _) ?_
    refine wg_getI dX9_count_86 (fl_X9_90 rfl) rfl rfl ?_
    exact wp_iret rfl dX9_count_89 ⟨Nat.le_refl _, Nat.le_refl _⟩ h
  by_cases c7 : a1 = 7
  · replace h := h.2.2.2.2.2.2.2.1 c7
    refine wg_tableIn dX9_count_1 (by omega) (by omega) (off := 89) (by rw [c7]; decide) rfl ?_
    refine wg_aload_n dX9_count_90 rfl (Nat.succ_ne_zero _) ?_
    refine wg_getI dX9_count_91 (fl_X9_93 rfl) rfl rfl ?_
    exact wp_iret rfl dX9_count_94 ⟨Nat.le_refl _, Nat.le_refl _⟩ h
  by_cases c8 : a1 = 8
  · replace h := h.2.2.2.2.2.2.2.2.1 c8
    refine wg_tableIn dX9_count_1 (by omega) (by omega) (off := 94) (by rw [c8]; decide) rfl ?_
    refine wg_aload_n dX9_count_95 rfl (Nat.succ_ne_zero _) ?_
    refine wg_getI dX9_count_96 (fl_X9_104 rfl) rfl rfl ?_
    exact wp_iret rfl dX9_count_99 ⟨Nat.le_refl _, Nat.le_refl _⟩ h
  have hc : a1 < 0 ∨ 8 < a1 := by omega
  replace h := h.2.2.2.2.2.2.2.2.2 hc
  refine wg_tableOut dX9_count_1 hc rfl ?_
  refine wg_iconst dX9_count_100 qiconst_m1 ?_
  exact wp_iret rfl dX9_count_101 ⟨Nat.le_refl _, Nat.le_refl _⟩ h
