/-! ===== blocks, by program: from a loop's head or an entry to the next heads, calls, ends ===== -/
set_option maxRecDepth 100000 in
theorem bX0_find_0 {G : GG} {d : Nat} {M : MM} {Q : Option AV → MM → Prop} (p1 : Nat) (hk1 : kd p1 = 7) (hS : ShX M) (h :
Wp G mX0_find (d + 1) 0 0 2 [some (vR 94), some (vR p1), some (vI 2)] [] M 0 0 Q) :
  Wp G mX0_find (d + 1) 0 0 0 [some (vR 94), some (vR p1), none] [] M 0 0 Q := by
  refine wg_iconst dX0_find_0 qiconst_2 ?_
  refine wg_istore_n (L' := [some (vR 94), some (vR p1), some (vI 2)]) dX0_find_1 (Nat.le_of_ble_eq_true rfl) rfl ?_
  exact h
set_option maxRecDepth 100000 in
theorem bX0_find_2 {G : GG} {d : Nat} {M : MM} {Q : Option AV → MM → Prop} (p1 : Nat) (hk1 : kd p1 = 7) (s2 : Int) (hS : ShX M) (h :
((gI M p1 4) < s2 →
(Q (some (vI 0)) M)) ∧
(¬ ((gI M p1 4) < s2) →
(∀ M2 : MM, M2 = stI M 94 0 s2 →
(Ok G mX0_extend d 0 0 [vR 94, vR p1, vI 0, vI 0] M2 (fun v M3 => ∃ r4 : Int, v = some (vI r4) ∧ ShX M3 ∧ 
((r4 = 0 →
(R32 (s2 + 1) ∧
(Wp G mX0_find (d + 1) 0 0 2 [some (vR 94), some (vR p1), some (vI (s2 + 1))] [] M3 0 0 Q))) ∧
(¬ (r4 = 0) →
(Q (some (vI 1)) M3)))))))) :
  Wp G mX0_find (d + 1) 0 0 2 [some (vR 94), some (vR p1), some (vI s2)] [] M 0 0 Q := by
  refine wg_iload_n dX0_find_2 rfl ?_
  refine wg_aload_n dX0_find_3 rfl (kn7 hk1) ?_
  refine wg_getI dX0_find_4 (fl_X0_27 rfl) rfl hk1 ?_
  refine wg_icmp_gt dX0_find_7 rfl (fun c1 => ?_) (fun c1 => ?_)
  · replace h := h.1 c1
    refine wg_iconst dX0_find_33 qiconst_0 ?_
    exact wp_zret rfl dX0_find_34 ⟨Nat.le_refl _, Nat.le_refl _⟩ (Or.inl rfl) h
  · replace h := h.2 c1
    refine wg_aload_n dX0_find_10 rfl (Nat.succ_ne_zero _) ?_
    refine wg_iload_n dX0_find_11 rfl ?_
    refine wg_putI dX0_find_12 (fl_X0_11 rfl) rfl rfl rfl ?_
    generalize hM : stI M 94 0 s2 = M2
    replace h := h _ hM.symm
    replace hS : ShX M2 := by rw [← hM]; exact hS
    clear hM
    refine wg_aload_n dX0_find_15 rfl (Nat.succ_ne_zero _) ?_
    refine wg_aload_n dX0_find_16 rfl (kn7 hk1) ?_
    refine wg_iconst dX0_find_17 qiconst_0 ?_
    refine wg_iconst dX0_find_18 qiconst_0 ?_
    refine wg_callS (I' := mX0_extend) (np := 4) (d' := d) (as := [vR 94, vR p1, vI 0, vI 0]) (st := []) dX0_find_19 lk_X0_30 ci_X0_extend rfl rfl (Nat.le_of_ble_eq_true rfl) (Nat.le_refl _) ⟨Nat.le_refl _, Nat.le_refl _⟩ h (fun v M3 h => ?_)
    obtain ⟨r4, rfl, hS, h⟩ := h
    refine wg_if_eq dX0_find_22 rfl (fun c5 => ?_) (fun c5 => ?_)
    · replace h := h.1 c5
      obtain ⟨o, h⟩ := h
      refine wg_iinc (L' := [some (vR 94), some (vR p1), some (vI (s2 + 1))]) dX0_find_27 (Nat.le_of_ble_eq_true rfl) rfl rfl o ?_
      refine wg_goto dX0_find_30 rfl ?_
      exact h
    · replace h := h.2 c5
      refine wg_iconst dX0_find_25 qiconst_1 ?_
      exact wp_zret rfl dX0_find_26 ⟨Nat.le_refl _, Nat.le_refl _⟩ (Or.inr rfl) h
set_option maxRecDepth 100000 in
theorem bX0_extend_0 {G : GG} {d : Nat} {M : MM} {Q : Option AV → MM → Prop} (p1 : Nat) (hk1 : kd p1 = 7) (a2 : Int) (a3 : Int) (hS : ShX M) (h :
(a2 < 0 →
((a2 ≠ (gI M 94 0) →
(Q (some (vI 0)) M)) ∧
(a2 = (gI M 94 0) →
(Ok G mX0_isGain d 0 0 [vR 94, vR p1] M (fun v M3 => ∃ r4 : Int, v = some (vI r4) ∧ ShX M3 ∧ 
((r4 = 0 →
(Q (some (vI 0)) M3)) ∧
(¬ (r4 = 0) →
(Q (some (vI 1)) M3)))))))) ∧
(¬ (a2 < 0) →
((6 ≤ a2 →
((a2 ≠ (gI M 94 0) →
(Q (some (vI 0)) M)) ∧
(a2 = (gI M 94 0) →
(Ok G mX0_isGain d 0 0 [vR 94, vR p1] M (fun v M8 => ∃ r9 : Int, v = some (vI r9) ∧ ShX M8 ∧ 
((r9 = 0 →
(Q (some (vI 0)) M8)) ∧
(¬ (r9 = 0) →
(Q (some (vI 1)) M8)))))))) ∧
(¬ (6 ≤ a2) →
((a2 < (gI M 94 0) →
(Wp G mX0_extend (d + 1) 0 0 43 [some (vR 94), some (vR p1), some (vI a2), some (vI a3), some (vI 0), none] [] M 0 0 Q)) ∧
(¬ (a2 < (gI M 94 0)) →
((a2 ≠ (gI M 94 0) →
(Q (some (vI 0)) M)) ∧
(a2 = (gI M 94 0) →
(Ok G mX0_isGain d 0 0 [vR 94, vR p1] M (fun v M13 => ∃ r14 : Int, v = some (vI r14) ∧ ShX M13 ∧ 
((r14 = 0 →
(Q (some (vI 0)) M13)) ∧
(¬ (r14 = 0) →
(Q (some (vI 1)) M13))))))))))))) :
  Wp G mX0_extend (d + 1) 0 0 0 [some (vR 94), some (vR p1), some (vI a2), some (vI a3), none, none] [] M 0 0 Q := by
  refine wg_iload_n dX0_extend_0 rfl ?_
  refine wg_if_lt dX0_extend_1 rfl (fun c1 => ?_) (fun c1 => ?_)
  · replace h := h.1 c1
    refine wg_iload_n dX0_extend_18 rfl ?_
    refine wg_aload_n dX0_extend_19 rfl (Nat.succ_ne_zero _) ?_
    refine wg_getI dX0_extend_20 (fl_X0_11 rfl) rfl rfl ?_
    refine wg_icmp_ne dX0_extend_23 rfl (fun c2 => ?_) (fun c2 => ?_)
    · replace h := h.1 c2
      refine wg_iconst dX0_extend_38 qiconst_0 ?_
      exact wp_zret rfl dX0_extend_39 ⟨Nat.le_refl _, Nat.le_refl _⟩ (Or.inl rfl) h
    · replace h := h.2 c2
      refine wg_aload_n dX0_extend_26 rfl (Nat.succ_ne_zero _) ?_
      refine wg_aload_n dX0_extend_27 rfl (kn7 hk1) ?_
      refine wg_callV (I' := mX0_isGain) (ci := 0) (np := 1) (d' := d) (q := 94) (as := [vR p1]) (st := []) dX0_extend_28 lk_X0_34 ci_X0_isGain rfl (Nat.le_of_ble_eq_true rfl) rfl rfl (Nat.le_of_ble_eq_true rfl) rfl (Nat.le_refl _) ⟨Nat.le_refl _, Nat.le_refl _⟩ h (fun v M3 h => ?_)
      obtain ⟨r4, rfl, hS, h⟩ := h
      refine wg_if_eq dX0_extend_31 rfl (fun c5 => ?_) (fun c5 => ?_)
      · replace h := h.1 c5
        refine wg_iconst dX0_extend_38 qiconst_0 ?_
        exact wp_zret rfl dX0_extend_39 ⟨Nat.le_refl _, Nat.le_refl _⟩ (Or.inl rfl) h
      · replace h := h.2 c5
        refine wg_iconst dX0_extend_34 qiconst_1 ?_
        refine wg_goto dX0_extend_35 rfl ?_
        exact wp_zret rfl dX0_extend_39 ⟨Nat.le_refl _, Nat.le_refl _⟩ (Or.inr rfl) h
  · replace h := h.2 c1
    refine wg_iload_n dX0_extend_4 rfl ?_
    refine wg_bipush dX0_extend_5 qbipush_6 ?_
    refine wg_icmp_ge dX0_extend_7 rfl (fun c6 => ?_) (fun c6 => ?_)
    · replace h := h.1 c6
      refine wg_iload_n dX0_extend_18 rfl ?_
      refine wg_aload_n dX0_extend_19 rfl (Nat.succ_ne_zero _) ?_
      refine wg_getI dX0_extend_20 (fl_X0_11 rfl) rfl rfl ?_
      refine wg_icmp_ne dX0_extend_23 rfl (fun c7 => ?_) (fun c7 => ?_)
      · replace h := h.1 c7
        refine wg_iconst dX0_extend_38 qiconst_0 ?_
        exact wp_zret rfl dX0_extend_39 ⟨Nat.le_refl _, Nat.le_refl _⟩ (Or.inl rfl) h
      · replace h := h.2 c7
        refine wg_aload_n dX0_extend_26 rfl (Nat.succ_ne_zero _) ?_
        refine wg_aload_n dX0_extend_27 rfl (kn7 hk1) ?_
        refine wg_callV (I' := mX0_isGain) (ci := 0) (np := 1) (d' := d) (q := 94) (as := [vR p1]) (st := []) dX0_extend_28 lk_X0_34 ci_X0_isGain rfl (Nat.le_of_ble_eq_true rfl) rfl rfl (Nat.le_of_ble_eq_true rfl) rfl (Nat.le_refl _) ⟨Nat.le_refl _, Nat.le_refl _⟩ h (fun v M8 h => ?_)
        obtain ⟨r9, rfl, hS, h⟩ := h
        refine wg_if_eq dX0_extend_31 rfl (fun c10 => ?_) (fun c10 => ?_)
        · replace h := h.1 c10
          refine wg_iconst dX0_extend_38 qiconst_0 ?_
          exact wp_zret rfl dX0_extend_39 ⟨Nat.le_refl _, Nat.le_refl _⟩ (Or.inl rfl) h
        · replace h := h.2 c10
          refine wg_iconst dX0_extend_34 qiconst_1 ?_
          refine wg_goto dX0_extend_35 rfl ?_
          exact wp_zret rfl dX0_extend_39 ⟨Nat.le_refl _, Nat.le_refl _⟩ (Or.inr rfl) h
    · replace h := h.2 c6
      refine wg_iload_n dX0_extend_10 rfl ?_
      refine wg_aload_n dX0_extend_11 rfl (Nat.succ_ne_zero _) ?_
      refine wg_getI dX0_extend_12 (fl_X0_11 rfl) rfl rfl ?_
      refine wg_icmp_lt dX0_extend_15 rfl (fun c11 => ?_) (fun c11 => ?_)
      · replace h := h.1 c11
        refine wg_iconst dX0_extend_40 qiconst_0 ?_
        refine wg_istore (L' := [some (vR 94), some (vR p1), some (vI a2), some (vI a3), some (vI 0), none]) dX0_extend_41 (Nat.le_of_ble_eq_true rfl) rfl ?_
        exact h
      · replace h := h.2 c11
        refine wg_iload_n dX0_extend_18 rfl ?_
        refine wg_aload_n dX0_extend_19 rfl (Nat.succ_ne_zero _) ?_
        refine wg_getI dX0_extend_20 (fl_X0_11 rfl) rfl rfl ?_
        refine wg_icmp_ne dX0_extend_23 rfl (fun c12 => ?_) (fun c12 => ?_)
        · replace h := h.1 c12
          refine wg_iconst dX0_extend_38 qiconst_0 ?_
          exact wp_zret rfl dX0_extend_39 ⟨Nat.le_refl _, Nat.le_refl _⟩ (Or.inl rfl) h
        · replace h := h.2 c12
          refine wg_aload_n dX0_extend_26 rfl (Nat.succ_ne_zero _) ?_
          refine wg_aload_n dX0_extend_27 rfl (kn7 hk1) ?_
          refine wg_callV (I' := mX0_isGain) (ci := 0) (np := 1) (d' := d) (q := 94) (as := [vR p1]) (st := []) dX0_extend_28 lk_X0_34 ci_X0_isGain rfl (Nat.le_of_ble_eq_true rfl) rfl rfl (Nat.le_of_ble_eq_true rfl) rfl (Nat.le_refl _) ⟨Nat.le_refl _, Nat.le_refl _⟩ h (fun v M13 h => ?_)
          obtain ⟨r14, rfl, hS, h⟩ := h
          refine wg_if_eq dX0_extend_31 rfl (fun c15 => ?_) (fun c15 => ?_)
          · replace h := h.1 c15
            refine wg_iconst dX0_extend_38 qiconst_0 ?_
            exact wp_zret rfl dX0_extend_39 ⟨Nat.le_refl _, Nat.le_refl _⟩ (Or.inl rfl) h
          · replace h := h.2 c15
            refine wg_iconst dX0_extend_34 qiconst_1 ?_
            refine wg_goto dX0_extend_35 rfl ?_
            exact wp_zret rfl dX0_extend_39 ⟨Nat.le_refl _, Nat.le_refl _⟩ (Or.inr rfl) h
set_option maxRecDepth 100000 in
theorem bX0_extend_43 {G : GG} {d : Nat} {M : MM} {Q : Option AV → MM → Prop} (p1 : Nat) (hk1 : kd p1 = 7) (a2 : Int) (a3 : Int) (s4 : Int) (hS : ShX M) (h :
((gI M p1 4) ≤ s4 →
(Q (some (vI 0)) M)) ∧
(¬ ((gI M p1 4) ≤ s4) →
(((if (iandv (ishrv a3 s4) 1) = 1 then (1 : Int) else 0) ≠ 0 →
(R32 (s4 + 1) ∧
(Wp G mX0_extend (d + 1) 0 0 43 [some (vR 94), some (vR p1), some (vI a2), some (vI a3), some (vI (s4 + 1)), none] [] M 0 0 Q))) ∧
((if (iandv (ishrv a3 s4) 1) = 1 then (1 : Int) else 0) = 0 →
((a2 ≤ 0 →
(((0 : Int) ≤ a2 ∧ (a2 : Int) < 6) ∧
(∀ M6 : MM, M6 = stI M 95 a2.toNat s4 →
(R32 (a2 + 1) ∧
(Ok G mX0_extend d 0 0 [vR 94, vR p1, vI (a2 + 1), vI (iorv a3 (ishlv 1 s4))] M6 (fun v M7 => ∃ r8 : Int, v = some (vI r8) ∧ ShX M7 ∧ 
((r8 = 0 →
(R32 (s4 + 1) ∧
(Wp G mX0_extend (d + 1) 0 0 43 [some (vR 94), some (vR p1), some (vI a2), some (vI a3), some (vI (s4 + 1)), none] [] M7 0 0 Q))) ∧
(¬ (r8 = 0) →
(Q (some (vI 1)) M7))))))))) ∧
(¬ (a2 ≤ 0) →
(R32 (a2 - 1) ∧
(Ok G mX0_exchangeAt d 0 0 [vR 94, vI (a2 - 1)] M (fun v M10 => ∃ r11 : Int, v = some (vI r11) ∧ ShX M10 ∧ 
(Ok G mX7_givenBy d 0 0 [vR p1, vI r11] M10 (fun v M12 => ∃ r13 : Int, v = some (vI r13) ∧ ShX M12 ∧ 
(Ok G mX7_takenBy d 0 0 [vR p1, vI s4] M12 (fun v M14 => ∃ r15 : Int, v = some (vI r15) ∧ ShX M14 ∧ 
((r13 = r15 →
(((0 : Int) ≤ a2 ∧ (a2 : Int) < 6) ∧
(∀ M18 : MM, M18 = stI M14 95 a2.toNat s4 →
(R32 (a2 + 1) ∧
(Ok G mX0_extend d 0 0 [vR 94, vR p1, vI (a2 + 1), vI (iorv a3 (ishlv 1 s4))] M18 (fun v M19 => ∃ r20 : Int, v = some (vI r20) ∧ ShX M19 ∧ 
((r20 = 0 →
(R32 (s4 + 1) ∧
(Wp G mX0_extend (d + 1) 0 0 43 [some (vR 94), some (vR p1), some (vI a2), some (vI a3), some (vI (s4 + 1)), none] [] M19 0 0 Q))) ∧
(¬ (r20 = 0) →
(Q (some (vI 1)) M19))))))))) ∧
(¬ (r13 = r15) →
(R32 (s4 + 1) ∧
(Wp G mX0_extend (d + 1) 0 0 43 [some (vR 94), some (vR p1), some (vI a2), some (vI a3), some (vI (s4 + 1)), none] [] M14 0 0 Q))))))))))))))))) :
  Wp G mX0_extend (d + 1) 0 0 43 [some (vR 94), some (vR p1), some (vI a2), some (vI a3), some (vI s4), none] [] M 0 0 Q := by
  refine wg_iload dX0_extend_43 rfl ?_
  refine wg_aload_n dX0_extend_45 rfl (kn7 hk1) ?_
  refine wg_getI dX0_extend_46 (fl_X0_27 rfl) rfl hk1 ?_
  refine wg_icmp_ge dX0_extend_49 rfl (fun c1 => ?_) (fun c1 => ?_)
  · replace h := h.1 c1
    refine wg_iconst dX0_extend_134 qiconst_0 ?_
    exact wp_zret rfl dX0_extend_135 ⟨Nat.le_refl _, Nat.le_refl _⟩ (Or.inl rfl) h
  · replace h := h.2 c1
    refine wg_iload_n dX0_extend_52 rfl ?_
    refine wg_iload dX0_extend_53 rfl ?_
    refine wg_ishr dX0_extend_55 ?_
    refine wg_iconst dX0_extend_56 qiconst_1 ?_
    refine wg_iand dX0_extend_57 ?_
    refine wg_iconst dX0_extend_58 qiconst_1 ?_
    have hJ22 : Wp G mX0_extend (d + 1) 0 0 67 [some (vR 94), some (vR p1), some (vI a2), some (vI a3), some (vI s4), none] [vI (if (iandv (ishrv a3 s4) 1) = 1 then (1 : Int) else 0)] M 0 0 Q := by
      refine wg_istore (L' := [some (vR 94), some (vR p1), some (vI a2), some (vI a3), some (vI s4), some (vI (if (iandv (ishrv a3 s4) 1) = 1 then (1 : Int) else 0))]) dX0_extend_67 (Nat.le_of_ble_eq_true rfl) rfl ?_
      refine wg_iload dX0_extend_69 rfl ?_
      refine wg_if_ne dX0_extend_71 rfl (fun c3 => ?_) (fun c3 => ?_)
      · replace h := h.1 c3
        obtain ⟨o, h⟩ := h
        refine wg_iinc (L' := [some (vR 94), some (vR p1), some (vI a2), some (vI a3), some (vI (s4 + 1)), some (vI (if (iandv (ishrv a3 s4) 1) = 1 then (1 : Int) else 0))]) dX0_extend_128 (Nat.le_of_ble_eq_true rfl) rfl rfl o ?_
        refine wg_goto dX0_extend_131 rfl ?_
        refine wg_weak [true, true, true, true, true, false] rfl ?_
        exact h
      · replace h := h.2 c3
        refine wg_iload_n dX0_extend_74 rfl ?_
        refine wg_if_le dX0_extend_75 rfl (fun c4 => ?_) (fun c4 => ?_)
        · replace h := h.1 c4
          refine wg_aload_n dX0_extend_101 rfl (Nat.succ_ne_zero _) ?_
          refine wg_getRe dX0_extend_102 (fl_X0_17 rfl) rfl rfl hS.2.1.2.2.2 ?_
          refine wg_iload_n dX0_extend_105 rfl ?_
          refine wg_iload dX0_extend_106 rfl ?_
          obtain ⟨o5, h⟩ := h
          refine wg_iast dX0_extend_108 rfl o5.1 o5.2 ?_
          generalize hM : stI M 95 a2.toNat s4 = M6
          replace h := h _ hM.symm
          replace hS : ShX M6 := by rw [← hM]; exact hS
          clear hM
          refine wg_aload_n dX0_extend_109 rfl (Nat.succ_ne_zero _) ?_
          refine wg_aload_n dX0_extend_110 rfl (kn7 hk1) ?_
          refine wg_iload_n dX0_extend_111 rfl ?_
          refine wg_iconst dX0_extend_112 qiconst_1 ?_
          obtain ⟨o, h⟩ := h
          refine wg_iadd dX0_extend_113 o ?_
          refine wg_iload_n dX0_extend_114 rfl ?_
          refine wg_iconst dX0_extend_115 qiconst_1 ?_
          refine wg_iload dX0_extend_116 rfl ?_
          refine wg_ishl dX0_extend_118 ?_
          refine wg_ior dX0_extend_119 ?_
          refine wg_callS (I' := mX0_extend) (np := 4) (d' := d) (as := [vR 94, vR p1, vI (a2 + 1), vI (iorv a3 (ishlv 1 s4))]) (st := []) dX0_extend_120 lk_X0_30 ci_X0_extend rfl rfl (Nat.le_of_ble_eq_true rfl) (Nat.le_refl _) ⟨Nat.le_refl _, Nat.le_refl _⟩ h (fun v M7 h => ?_)
          obtain ⟨r8, rfl, hS, h⟩ := h
          refine wg_if_eq dX0_extend_123 rfl (fun c9 => ?_) (fun c9 => ?_)
          · replace h := h.1 c9
            obtain ⟨o, h⟩ := h
            refine wg_iinc (L' := [some (vR 94), some (vR p1), some (vI a2), some (vI a3), some (vI (s4 + 1)), some (vI (if (iandv (ishrv a3 s4) 1) = 1 then (1 : Int) else 0))]) dX0_extend_128 (Nat.le_of_ble_eq_true rfl) rfl rfl o ?_
            refine wg_goto dX0_extend_131 rfl ?_
            refine wg_weak [true, true, true, true, true, false] rfl ?_
            exact h
          · replace h := h.2 c9
            refine wg_iconst dX0_extend_126 qiconst_1 ?_
            exact wp_zret rfl dX0_extend_127 ⟨Nat.le_refl _, Nat.le_refl _⟩ (Or.inr rfl) h
        · replace h := h.2 c4
          refine wg_aload_n dX0_extend_78 rfl (kn7 hk1) ?_
          refine wg_aload_n dX0_extend_79 rfl (Nat.succ_ne_zero _) ?_
          refine wg_iload_n dX0_extend_80 rfl ?_
          refine wg_iconst dX0_extend_81 qiconst_1 ?_
          obtain ⟨o, h⟩ := h
          refine wg_isub dX0_extend_82 o ?_
          refine wg_callV (I' := mX0_exchangeAt) (ci := 0) (np := 1) (d' := d) (q := 94) (as := [vI (a2 - 1)]) (st := [vR p1]) dX0_extend_83 lk_X0_38 ci_X0_exchangeAt rfl (Nat.le_of_ble_eq_true rfl) rfl rfl (Nat.le_of_ble_eq_true rfl) rfl (Nat.le_refl _) ⟨Nat.le_refl _, Nat.le_refl _⟩ h (fun v M10 h => ?_)
          obtain ⟨r11, rfl, hS, h⟩ := h
          refine wg_callV (I' := mX7_givenBy) (ci := 7) (np := 1) (d' := d) (q := p1) (as := [vI r11]) (st := []) dX0_extend_86 lk_X0_42 ci_X7_givenBy rfl (Nat.le_of_ble_eq_true rfl) rfl rfl (Nat.le_of_ble_eq_true rfl) hk1 (Nat.le_refl _) ⟨Nat.le_refl _, Nat.le_refl _⟩ h (fun v M12 h => ?_)
          obtain ⟨r13, rfl, hS, h⟩ := h
          refine wg_aload_n dX0_extend_89 rfl (kn7 hk1) ?_
          refine wg_iload dX0_extend_90 rfl ?_
          refine wg_callV (I' := mX7_takenBy) (ci := 7) (np := 1) (d' := d) (q := p1) (as := [vI s4]) (st := [vI r13]) dX0_extend_92 lk_X0_45 ci_X7_takenBy rfl (Nat.le_of_ble_eq_true rfl) rfl rfl (Nat.le_of_ble_eq_true rfl) hk1 (Nat.le_refl _) ⟨Nat.le_refl _, Nat.le_refl _⟩ h (fun v M14 h => ?_)
          obtain ⟨r15, rfl, hS, h⟩ := h
          refine wg_icmp_eq dX0_extend_95 rfl (fun c16 => ?_) (fun c16 => ?_)
          · replace h := h.1 c16
            refine wg_aload_n dX0_extend_101 rfl (Nat.succ_ne_zero _) ?_
            refine wg_getRe dX0_extend_102 (fl_X0_17 rfl) rfl rfl hS.2.1.2.2.2 ?_
            refine wg_iload_n dX0_extend_105 rfl ?_
            refine wg_iload dX0_extend_106 rfl ?_
            obtain ⟨o17, h⟩ := h
            refine wg_iast dX0_extend_108 rfl o17.1 o17.2 ?_
            generalize hM : stI M14 95 a2.toNat s4 = M18
            replace h := h _ hM.symm
            replace hS : ShX M18 := by rw [← hM]; exact hS
            clear hM
            refine wg_aload_n dX0_extend_109 rfl (Nat.succ_ne_zero _) ?_
            refine wg_aload_n dX0_extend_110 rfl (kn7 hk1) ?_
            refine wg_iload_n dX0_extend_111 rfl ?_
            refine wg_iconst dX0_extend_112 qiconst_1 ?_
            obtain ⟨o, h⟩ := h
            refine wg_iadd dX0_extend_113 o ?_
            refine wg_iload_n dX0_extend_114 rfl ?_
            refine wg_iconst dX0_extend_115 qiconst_1 ?_
            refine wg_iload dX0_extend_116 rfl ?_
            refine wg_ishl dX0_extend_118 ?_
            refine wg_ior dX0_extend_119 ?_
            refine wg_callS (I' := mX0_extend) (np := 4) (d' := d) (as := [vR 94, vR p1, vI (a2 + 1), vI (iorv a3 (ishlv 1 s4))]) (st := []) dX0_extend_120 lk_X0_30 ci_X0_extend rfl rfl (Nat.le_of_ble_eq_true rfl) (Nat.le_refl _) ⟨Nat.le_refl _, Nat.le_refl _⟩ h (fun v M19 h => ?_)
            obtain ⟨r20, rfl, hS, h⟩ := h
            refine wg_if_eq dX0_extend_123 rfl (fun c21 => ?_) (fun c21 => ?_)
            · replace h := h.1 c21
              obtain ⟨o, h⟩ := h
              refine wg_iinc (L' := [some (vR 94), some (vR p1), some (vI a2), some (vI a3), some (vI (s4 + 1)), some (vI (if (iandv (ishrv a3 s4) 1) = 1 then (1 : Int) else 0))]) dX0_extend_128 (Nat.le_of_ble_eq_true rfl) rfl rfl o ?_
              refine wg_goto dX0_extend_131 rfl ?_
              refine wg_weak [true, true, true, true, true, false] rfl ?_
              exact h
            · replace h := h.2 c21
              refine wg_iconst dX0_extend_126 qiconst_1 ?_
              exact wp_zret rfl dX0_extend_127 ⟨Nat.le_refl _, Nat.le_refl _⟩ (Or.inr rfl) h
          · replace h := h.2 c16
            refine wg_goto dX0_extend_98 rfl ?_
            obtain ⟨o, h⟩ := h
            refine wg_iinc (L' := [some (vR 94), some (vR p1), some (vI a2), some (vI a3), some (vI (s4 + 1)), some (vI (if (iandv (ishrv a3 s4) 1) = 1 then (1 : Int) else 0))]) dX0_extend_128 (Nat.le_of_ble_eq_true rfl) rfl rfl o ?_
            refine wg_goto dX0_extend_131 rfl ?_
            refine wg_weak [true, true, true, true, true, false] rfl ?_
            exact h
    refine wg_icmp_ne dX0_extend_59 rfl (fun c2 => ?_) (fun c2 => ?_)
    · rw [show (if (iandv (ishrv a3 s4) 1) = 1 then (1 : Int) else 0) = 0 from if_neg c2] at hJ22
      refine wg_iconst dX0_extend_66 qiconst_0 ?_
      exact hJ22
    · rw [show (if (iandv (ishrv a3 s4) 1) = 1 then (1 : Int) else 0) = 1 from if_pos c2] at hJ22
      refine wg_iconst dX0_extend_62 qiconst_1 ?_
      refine wg_goto dX0_extend_63 rfl ?_
      exact hJ22
set_option maxRecDepth 100000 in
theorem bX0_isGain_0 {G : GG} {d : Nat} {M : MM} {Q : Option AV → MM → Prop} (p1 : Nat) (hk1 : kd p1 = 7) (hS : ShX M) (h :
R32 ((gI M 94 0) - 1) ∧
(Ok G mX0_exchangeAt d 0 0 [vR 94, vI ((gI M 94 0) - 1)] M (fun v M1 => ∃ r2 : Int, v = some (vI r2) ∧ ShX M1 ∧ 
(Ok G mX7_givenBy d 0 0 [vR p1, vI r2] M1 (fun v M3 => ∃ r4 : Int, v = some (vI r4) ∧ ShX M3 ∧ 
((Ok G mX7_takenBy d 0 0 [vR p1, vI (gI M3 95 0)] M3 (fun v M5 => ∃ r6 : Int, v = some (vI r6) ∧ ShX M5 ∧ 
((r4 = r6 →
(∀ M8 : MM, M8 = stI M5 94 2 1 →
(∀ M9 : MM, M9 = stI M8 94 3 1 →
(Wp G mX0_isGain (d + 1) 0 0 43 [some (vR 94), some (vR p1), none, some (vI 0)] [] M9 0 0 Q)))) ∧
(¬ (r4 = r6) →
(Q (some (vI 0)) M5))))))))))) :
  Wp G mX0_isGain (d + 1) 0 0 0 [some (vR 94), some (vR p1), none, none] [] M 0 0 Q := by
  refine wg_aload_n dX0_isGain_0 rfl (Nat.succ_ne_zero _) ?_
  refine wg_aload_n dX0_isGain_1 rfl (Nat.succ_ne_zero _) ?_
  refine wg_getI dX0_isGain_2 (fl_X0_11 rfl) rfl rfl ?_
  refine wg_iconst dX0_isGain_5 qiconst_1 ?_
  obtain ⟨o, h⟩ := h
  refine wg_isub dX0_isGain_6 o ?_
  refine wg_callV (I' := mX0_exchangeAt) (ci := 0) (np := 1) (d' := d) (q := 94) (as := [vI ((gI M 94 0) - 1)]) (st := []) dX0_isGain_7 lk_X0_38 ci_X0_exchangeAt rfl (Nat.le_of_ble_eq_true rfl) rfl rfl (Nat.le_of_ble_eq_true rfl) rfl (Nat.le_refl _) ⟨Nat.le_refl _, Nat.le_refl _⟩ h (fun v M1 h => ?_)
  obtain ⟨r2, rfl, hS, h⟩ := h
  refine wg_istore_n (L' := [some (vR 94), some (vR p1), some (vI r2), none]) dX0_isGain_10 (Nat.le_of_ble_eq_true rfl) rfl ?_
  refine wg_aload_n dX0_isGain_11 rfl (kn7 hk1) ?_
  refine wg_iload_n dX0_isGain_12 rfl ?_
  refine wg_callV (I' := mX7_givenBy) (ci := 7) (np := 1) (d' := d) (q := p1) (as := [vI r2]) (st := []) dX0_isGain_13 lk_X0_42 ci_X7_givenBy rfl (Nat.le_of_ble_eq_true rfl) rfl rfl (Nat.le_of_ble_eq_true rfl) hk1 (Nat.le_refl _) ⟨Nat.le_refl _, Nat.le_refl _⟩ h (fun v M3 h => ?_)
  obtain ⟨r4, rfl, hS, h⟩ := h
  refine wg_aload_n dX0_isGain_16 rfl (kn7 hk1) ?_
  refine wg_aload_n dX0_isGain_17 rfl (Nat.succ_ne_zero _) ?_
  refine wg_getRe dX0_isGain_18 (fl_X0_17 rfl) rfl rfl hS.2.1.2.2.2 ?_
  refine wg_iconst dX0_isGain_21 qiconst_0 ?_
  refine wg_iald dX0_isGain_22 rfl (by decide) (by decide) ?_
  refine wg_callV (I' := mX7_takenBy) (ci := 7) (np := 1) (d' := d) (q := p1) (as := [vI (gI M3 95 0)]) (st := [vI r4]) dX0_isGain_23 lk_X0_45 ci_X7_takenBy rfl (Nat.le_of_ble_eq_true rfl) rfl rfl (Nat.le_of_ble_eq_true rfl) hk1 (Nat.le_refl _) ⟨Nat.le_refl _, Nat.le_refl _⟩ h (fun v M5 h => ?_)
  obtain ⟨r6, rfl, hS, h⟩ := h
  refine wg_icmp_eq dX0_isGain_26 rfl (fun c7 => ?_) (fun c7 => ?_)
  · replace h := h.1 c7
    refine wg_aload_n dX0_isGain_31 rfl (Nat.succ_ne_zero _) ?_
    refine wg_iconst dX0_isGain_32 qiconst_1 ?_
    refine wg_putI dX0_isGain_33 (fl_X0_21 rfl) rfl rfl rfl ?_
    generalize hM : stI M5 94 2 1 = M8
    replace h := h _ hM.symm
    replace hS : ShX M8 := by rw [← hM]; exact hS
    clear hM
    refine wg_aload_n dX0_isGain_36 rfl (Nat.succ_ne_zero _) ?_
    refine wg_iconst dX0_isGain_37 qiconst_1 ?_
    refine wg_putI dX0_isGain_38 (fl_X0_24 rfl) rfl rfl rfl ?_
    generalize hM : stI M8 94 3 1 = M9
    replace h := h _ hM.symm
    replace hS : ShX M9 := by rw [← hM]; exact hS
    clear hM
    refine wg_iconst dX0_isGain_41 qiconst_0 ?_
    refine wg_istore_n (L' := [some (vR 94), some (vR p1), some (vI r2), some (vI 0)]) dX0_isGain_42 (Nat.le_of_ble_eq_true rfl) rfl ?_
    refine wg_weak [true, true, false, true] rfl ?_
    exact h
  · replace h := h.2 c7
    refine wg_iconst dX0_isGain_29 qiconst_0 ?_
    exact wp_zret rfl dX0_isGain_30 ⟨Nat.le_refl _, Nat.le_refl _⟩ (Or.inl rfl) h
set_option maxRecDepth 100000 in
theorem bX0_isGain_43 {G : GG} {d : Nat} {M : MM} {Q : Option AV → MM → Prop} (p1 : Nat) (hk1 : kd p1 = 7) (s3 : Int) (hS : ShX M) (h :
((gI M 94 0) ≤ s3 →
(((gI M 94 2) ≤ (gI M 94 3) →
(Q (some (vI 0)) M)) ∧
(¬ ((gI M 94 2) ≤ (gI M 94 3)) →
(Q (some (vI 1)) M)))) ∧
(¬ ((gI M 94 0) ≤ s3) →
((6 ≤ s3 →
(((gI M 94 2) ≤ (gI M 94 3) →
(Q (some (vI 0)) M)) ∧
(¬ ((gI M 94 2) ≤ (gI M 94 3)) →
(Q (some (vI 1)) M)))) ∧
(¬ (6 ≤ s3) →
(((0 : Int) ≤ s3 ∧ (s3 : Int) < 6) ∧
(Ok G mX7_givenMuchBy d 0 0 [vR p1, vI (gI M 95 s3.toNat)] M (fun v M6 => ∃ r7 : Int, v = some (vI r7) ∧ ShX M6 ∧ 
(R32 ((gI M 94 2) * r7) ∧
(∀ M8 : MM, M8 = stI M6 94 2 ((gI M 94 2) * r7) →
((Ok G mX7_takenMuchBy d 0 0 [vR p1, vI (gI M8 95 s3.toNat)] M8 (fun v M9 => ∃ r10 : Int, v = some (vI r10) ∧ ShX M9 ∧ 
(R32 ((gI M8 94 3) * r10) ∧
(∀ M11 : MM, M11 = stI M9 94 3 ((gI M8 94 3) * r10) →
(R32 (s3 + 1) ∧
(Wp G mX0_isGain (d + 1) 0 0 43 [some (vR 94), some (vR p1), none, some (vI (s3 + 1))] [] M11 0 0 Q)))))))))))))))) :
  Wp G mX0_isGain (d + 1) 0 0 43 [some (vR 94), some (vR p1), none, some (vI s3)] [] M 0 0 Q := by
  refine wg_iload_n dX0_isGain_43 rfl ?_
  refine wg_aload_n dX0_isGain_44 rfl (Nat.succ_ne_zero _) ?_
  refine wg_getI dX0_isGain_45 (fl_X0_11 rfl) rfl rfl ?_
  refine wg_icmp_ge dX0_isGain_48 rfl (fun c1 => ?_) (fun c1 => ?_)
  · replace h := h.1 c1
    refine wg_aload_n dX0_isGain_101 rfl (Nat.succ_ne_zero _) ?_
    refine wg_getI dX0_isGain_102 (fl_X0_21 rfl) rfl rfl ?_
    refine wg_aload_n dX0_isGain_105 rfl (Nat.succ_ne_zero _) ?_
    refine wg_getI dX0_isGain_106 (fl_X0_24 rfl) rfl rfl ?_
    refine wg_icmp_le dX0_isGain_109 rfl (fun c2 => ?_) (fun c2 => ?_)
    · replace h := h.1 c2
      refine wg_iconst dX0_isGain_116 qiconst_0 ?_
      exact wp_zret rfl dX0_isGain_117 ⟨Nat.le_refl _, Nat.le_refl _⟩ (Or.inl rfl) h
    · replace h := h.2 c2
      refine wg_iconst dX0_isGain_112 qiconst_1 ?_
      refine wg_goto dX0_isGain_113 rfl ?_
      exact wp_zret rfl dX0_isGain_117 ⟨Nat.le_refl _, Nat.le_refl _⟩ (Or.inr rfl) h
  · replace h := h.2 c1
    refine wg_iload_n dX0_isGain_51 rfl ?_
    refine wg_bipush dX0_isGain_52 qbipush_6 ?_
    refine wg_icmp_ge dX0_isGain_54 rfl (fun c3 => ?_) (fun c3 => ?_)
    · replace h := h.1 c3
      refine wg_aload_n dX0_isGain_101 rfl (Nat.succ_ne_zero _) ?_
      refine wg_getI dX0_isGain_102 (fl_X0_21 rfl) rfl rfl ?_
      refine wg_aload_n dX0_isGain_105 rfl (Nat.succ_ne_zero _) ?_
      refine wg_getI dX0_isGain_106 (fl_X0_24 rfl) rfl rfl ?_
      refine wg_icmp_le dX0_isGain_109 rfl (fun c4 => ?_) (fun c4 => ?_)
      · replace h := h.1 c4
        refine wg_iconst dX0_isGain_116 qiconst_0 ?_
        exact wp_zret rfl dX0_isGain_117 ⟨Nat.le_refl _, Nat.le_refl _⟩ (Or.inl rfl) h
      · replace h := h.2 c4
        refine wg_iconst dX0_isGain_112 qiconst_1 ?_
        refine wg_goto dX0_isGain_113 rfl ?_
        exact wp_zret rfl dX0_isGain_117 ⟨Nat.le_refl _, Nat.le_refl _⟩ (Or.inr rfl) h
    · replace h := h.2 c3
      refine wg_aload_n dX0_isGain_57 rfl (Nat.succ_ne_zero _) ?_
      refine wg_dup dX0_isGain_58 rfl ?_
      refine wg_getI dX0_isGain_59 (fl_X0_21 rfl) rfl rfl ?_
      refine wg_aload_n dX0_isGain_62 rfl (kn7 hk1) ?_
      refine wg_aload_n dX0_isGain_63 rfl (Nat.succ_ne_zero _) ?_
      refine wg_getRe dX0_isGain_64 (fl_X0_17 rfl) rfl rfl hS.2.1.2.2.2 ?_
      refine wg_iload_n dX0_isGain_67 rfl ?_
      obtain ⟨o5, h⟩ := h
      refine wg_iald dX0_isGain_68 rfl o5.1 o5.2 ?_
      refine wg_callV (I' := mX7_givenMuchBy) (ci := 7) (np := 1) (d' := d) (q := p1) (as := [vI (gI M 95 s3.toNat)]) (st := [vI (gI M 94 2), vR 94]) dX0_isGain_69 lk_X0_48 ci_X7_givenMuchBy rfl (Nat.le_of_ble_eq_true rfl) rfl rfl (Nat.le_of_ble_eq_true rfl) hk1 (Nat.le_refl _) ⟨Nat.le_refl _, Nat.le_refl _⟩ h (fun v M6 h => ?_)
      obtain ⟨r7, rfl, hS, h⟩ := h
      obtain ⟨o, h⟩ := h
      refine wg_imul dX0_isGain_72 o ?_
      refine wg_putI dX0_isGain_73 (fl_X0_21 rfl) rfl rfl rfl ?_
      generalize hM : stI M6 94 2 ((gI M 94 2) * r7) = M8
      replace h := h _ hM.symm
      replace hS : ShX M8 := by rw [← hM]; exact hS
      clear hM
      refine wg_aload_n dX0_isGain_76 rfl (Nat.succ_ne_zero _) ?_
      refine wg_dup dX0_isGain_77 rfl ?_
      refine wg_getI dX0_isGain_78 (fl_X0_24 rfl) rfl rfl ?_
      refine wg_aload_n dX0_isGain_81 rfl (kn7 hk1) ?_
      refine wg_aload_n dX0_isGain_82 rfl (Nat.succ_ne_zero _) ?_
      refine wg_getRe dX0_isGain_83 (fl_X0_17 rfl) rfl rfl hS.2.1.2.2.2 ?_
      refine wg_iload_n dX0_isGain_86 rfl ?_
      refine wg_iald dX0_isGain_87 rfl o5.1 o5.2 ?_
      refine wg_callV (I' := mX7_takenMuchBy) (ci := 7) (np := 1) (d' := d) (q := p1) (as := [vI (gI M8 95 s3.toNat)]) (st := [vI (gI M8 94 3), vR 94]) dX0_isGain_88 lk_X0_51 ci_X7_takenMuchBy rfl (Nat.le_of_ble_eq_true rfl) rfl rfl (Nat.le_of_ble_eq_true rfl) hk1 (Nat.le_refl _) ⟨Nat.le_refl _, Nat.le_refl _⟩ h (fun v M9 h => ?_)
      obtain ⟨r10, rfl, hS, h⟩ := h
      obtain ⟨o, h⟩ := h
      refine wg_imul dX0_isGain_91 o ?_
      refine wg_putI dX0_isGain_92 (fl_X0_24 rfl) rfl rfl rfl ?_
      generalize hM : stI M9 94 3 ((gI M8 94 3) * r10) = M11
      replace h := h _ hM.symm
      replace hS : ShX M11 := by rw [← hM]; exact hS
      clear hM
      obtain ⟨o, h⟩ := h
      refine wg_iinc (L' := [some (vR 94), some (vR p1), none, some (vI (s3 + 1))]) dX0_isGain_95 (Nat.le_of_ble_eq_true rfl) rfl rfl o ?_
      refine wg_goto dX0_isGain_98 rfl ?_
      exact h
set_option maxRecDepth 100000 in
theorem bX0_above_0 {G : GG} {d : Nat} {M : MM} {Q : Option AV → MM → Prop} (hS : ShX M) (h :
Ok G mX8_commonDivisor d 0 0 [vL (gI M 94 2), vL (gI M 94 3)] M (fun v M1 => ∃ r2 : Int, v = some (vL r2) ∧ ShX M1 ∧ 
(r2 ≠ 0 ∧
R64 (Int.tdiv (gI M 94 2) r2) ∧
(R32 (Int.tdiv (gI M 94 2) r2) ∧
(Q (some (vI (Int.tdiv (gI M 94 2) r2))) M1))))) :
  Wp G mX0_above (d + 1) 0 0 0 [some (vR 94)] [] M 0 0 Q := by
  refine wg_aload_n dX0_above_0 rfl (Nat.succ_ne_zero _) ?_
  refine wg_getI dX0_above_1 (fl_X0_21 rfl) rfl rfl ?_
  refine wg_i2l dX0_above_4 ?_
  refine wg_aload_n dX0_above_5 rfl (Nat.succ_ne_zero _) ?_
  refine wg_getI dX0_above_6 (fl_X0_21 rfl) rfl rfl ?_
  refine wg_i2l dX0_above_9 ?_
  refine wg_aload_n dX0_above_10 rfl (Nat.succ_ne_zero _) ?_
  refine wg_getI dX0_above_11 (fl_X0_24 rfl) rfl rfl ?_
  refine wg_i2l dX0_above_14 ?_
  refine wg_callSN (I' := mX8_commonDivisor) (np := 2) (d' := d) (as := [vL (gI M 94 2), vL (gI M 94 3)]) (st := [vL (gI M 94 2)]) dX0_above_15 lk_X0_54 ci_X8_commonDivisor rfl rfl (Nat.le_of_ble_eq_true rfl) (Nat.le_refl _) ⟨Nat.le_refl _, Nat.le_refl _⟩ h (fun v M1 h => ?_)
  obtain ⟨r2, rfl, hS, h⟩ := h
  obtain ⟨o1, h⟩ := h
  obtain ⟨o, h⟩ := h
  refine wg_ldiv dX0_above_18 o1 o ?_
  obtain ⟨o, h⟩ := h
  refine wg_l2i dX0_above_19 o ?_
  exact wp_iret rfl dX0_above_20 ⟨Nat.le_refl _, Nat.le_refl _⟩ h
set_option maxRecDepth 100000 in
theorem bX0_below_0 {G : GG} {d : Nat} {M : MM} {Q : Option AV → MM → Prop} (hS : ShX M) (h :
Ok G mX8_commonDivisor d 0 0 [vL (gI M 94 2), vL (gI M 94 3)] M (fun v M1 => ∃ r2 : Int, v = some (vL r2) ∧ ShX M1 ∧ 
(r2 ≠ 0 ∧
R64 (Int.tdiv (gI M 94 3) r2) ∧
(R32 (Int.tdiv (gI M 94 3) r2) ∧
(Q (some (vI (Int.tdiv (gI M 94 3) r2))) M1))))) :
  Wp G mX0_below (d + 1) 0 0 0 [some (vR 94)] [] M 0 0 Q := by
  refine wg_aload_n dX0_below_0 rfl (Nat.succ_ne_zero _) ?_
  refine wg_getI dX0_below_1 (fl_X0_24 rfl) rfl rfl ?_
  refine wg_i2l dX0_below_4 ?_
  refine wg_aload_n dX0_below_5 rfl (Nat.succ_ne_zero _) ?_
  refine wg_getI dX0_below_6 (fl_X0_21 rfl) rfl rfl ?_
  refine wg_i2l dX0_below_9 ?_
  refine wg_aload_n dX0_below_10 rfl (Nat.succ_ne_zero _) ?_
  refine wg_getI dX0_below_11 (fl_X0_24 rfl) rfl rfl ?_
  refine wg_i2l dX0_below_14 ?_
  refine wg_callSN (I' := mX8_commonDivisor) (np := 2) (d' := d) (as := [vL (gI M 94 2), vL (gI M 94 3)]) (st := [vL (gI M 94 3)]) dX0_below_15 lk_X0_54 ci_X8_commonDivisor rfl rfl (Nat.le_of_ble_eq_true rfl) (Nat.le_refl _) ⟨Nat.le_refl _, Nat.le_refl _⟩ h (fun v M1 h => ?_)
  obtain ⟨r2, rfl, hS, h⟩ := h
  obtain ⟨o1, h⟩ := h
  obtain ⟨o, h⟩ := h
  refine wg_ldiv dX0_below_18 o1 o ?_
  obtain ⟨o, h⟩ := h
  refine wg_l2i dX0_below_19 o ?_
  exact wp_iret rfl dX0_below_20 ⟨Nat.le_refl _, Nat.le_refl _⟩ h
set_option maxRecDepth 100000 in
theorem bX0_exchangeAt_0 {G : GG} {d : Nat} {M : MM} {Q : Option AV → MM → Prop} (a1 : Int) (hS : ShX M) (h :
(a1 < 0 →
(Q (some (vI (-4))) M)) ∧
(¬ (a1 < 0) →
(((gI M 94 0) ≤ a1 →
(Q (some (vI (-4))) M)) ∧
(¬ ((gI M 94 0) ≤ a1) →
((6 ≤ a1 →
(Q (some (vI (-4))) M)) ∧
(¬ (6 ≤ a1) →
(((0 : Int) ≤ a1 ∧ (a1 : Int) < 6) ∧
(Q (some (vI (gI M 95 a1.toNat))) M)))))))) :
  Wp G mX0_exchangeAt d 0 0 0 [some (vR 94), some (vI a1)] [] M 0 0 Q := by
  refine wg_iload_n dX0_exchangeAt_0 rfl ?_
  refine wg_if_lt dX0_exchangeAt_1 rfl (fun c1 => ?_) (fun c1 => ?_)
  · replace h := h.1 c1
    refine wg_bipush dX0_exchangeAt_27 qbipush_m4 ?_
    exact wp_iret rfl dX0_exchangeAt_29 ⟨Nat.le_refl _, Nat.le_refl _⟩ h
  · replace h := h.2 c1
    refine wg_iload_n dX0_exchangeAt_4 rfl ?_
    refine wg_aload_n dX0_exchangeAt_5 rfl (Nat.succ_ne_zero _) ?_
    refine wg_getI dX0_exchangeAt_6 (fl_X0_11 rfl) rfl rfl ?_
    refine wg_icmp_ge dX0_exchangeAt_9 rfl (fun c2 => ?_) (fun c2 => ?_)
    · replace h := h.1 c2
      refine wg_bipush dX0_exchangeAt_27 qbipush_m4 ?_
      exact wp_iret rfl dX0_exchangeAt_29 ⟨Nat.le_refl _, Nat.le_refl _⟩ h
    · replace h := h.2 c2
      refine wg_iload_n dX0_exchangeAt_12 rfl ?_
      refine wg_bipush dX0_exchangeAt_13 qbipush_6 ?_
      refine wg_icmp_ge dX0_exchangeAt_15 rfl (fun c3 => ?_) (fun c3 => ?_)
      · replace h := h.1 c3
        refine wg_bipush dX0_exchangeAt_27 qbipush_m4 ?_
        exact wp_iret rfl dX0_exchangeAt_29 ⟨Nat.le_refl _, Nat.le_refl _⟩ h
      · replace h := h.2 c3
        refine wg_aload_n dX0_exchangeAt_18 rfl (Nat.succ_ne_zero _) ?_
        refine wg_getRe dX0_exchangeAt_19 (fl_X0_17 rfl) rfl rfl hS.2.1.2.2.2 ?_
        refine wg_iload_n dX0_exchangeAt_22 rfl ?_
        obtain ⟨o4, h⟩ := h
        refine wg_iald dX0_exchangeAt_23 rfl o4.1 o4.2 ?_
        refine wg_goto dX0_exchangeAt_24 rfl ?_
        exact wp_iret rfl dX0_exchangeAt_29 ⟨Nat.le_refl _, Nat.le_refl _⟩ h
set_option maxRecDepth 100000 in
theorem bX3_findLeast_0 {G : GG} {d : Nat} {M : MM} {Q : Option AV → MM → Prop} (a1 : Int) (a2 : Int) (hS : ShX M) (h :
Ok G mX6_thereBesides d 0 0 [vR 30, vI a2] M (fun v M1 => ∃ r2 : Int, v = some (vI r2) ∧ ShX M1 ∧ 
(Wp G mX3_findLeast (d + 1) 0 0 15 [some (vR 87), some (vI a1), some (vI a2), some (vI r2), some (vI 0), some (vI 1), none] [] M1 0 0 Q))) :
  Wp G mX3_findLeast (d + 1) 0 0 0 [some (vR 87), some (vI a1), some (vI a2), none, none, none, none] [] M 0 0 Q := by
  refine wg_aload_n dX3_findLeast_0 rfl (Nat.succ_ne_zero _) ?_
  refine wg_getRe dX3_findLeast_1 (fl_X3_48 rfl) rfl rfl (x87 hS 4 (r := 30) (Nat.le_of_ble_eq_true rfl) (Nat.le_of_ble_eq_true rfl) rfl) ?_
  refine wg_iload_n dX3_findLeast_4 rfl ?_
  refine wg_callV (I' := mX6_thereBesides) (ci := 6) (np := 1) (d' := d) (q := 30) (as := [vI a2]) (st := []) dX3_findLeast_5 lk_X3_52 ci_X6_thereBesides rfl (Nat.le_of_ble_eq_true rfl) rfl rfl (Nat.le_of_ble_eq_true rfl) rfl (Nat.le_refl _) ⟨Nat.le_refl _, Nat.le_refl _⟩ h (fun v M1 h => ?_)
  obtain ⟨r2, rfl, hS, h⟩ := h
  refine wg_istore_n (L' := [some (vR 87), some (vI a1), some (vI a2), some (vI r2), none, none, none]) dX3_findLeast_8 (Nat.le_of_ble_eq_true rfl) rfl ?_
  refine wg_iconst dX3_findLeast_9 qiconst_0 ?_
  refine wg_istore (L' := [some (vR 87), some (vI a1), some (vI a2), some (vI r2), some (vI 0), none, none]) dX3_findLeast_10 (Nat.le_of_ble_eq_true rfl) rfl ?_
  refine wg_iconst dX3_findLeast_12 qiconst_1 ?_
  refine wg_istore (L' := [some (vR 87), some (vI a1), some (vI a2), some (vI r2), some (vI 0), some (vI 1), none]) dX3_findLeast_13 (Nat.le_of_ble_eq_true rfl) rfl ?_
  exact h
set_option maxRecDepth 100000 in
theorem bX3_findLeast_15 {G : GG} {d : Nat} {M : MM} {Q : Option AV → MM → Prop} (a1 : Int) (a2 : Int) (s3 : Int) (s4 : Int) (s5 : Int) (hS : ShX M) (h :
((gI M 30 0) ≤ s5 →
((s4 = 0 ∨ s4 = 1) ∧ Q (some (vI s4)) M)) ∧
(¬ ((gI M 30 0) ≤ s5) →
(((iandv s5 (ixorv s3 (-1))) ≠ 0 →
(R32 (s5 + 1) ∧
(Wp G mX3_findLeast (d + 1) 0 0 15 [some (vR 87), some (vI a1), some (vI a2), some (vI s3), some (vI s4), some (vI (s5 + 1)), none] [] M 0 0 Q))) ∧
((iandv s5 (ixorv s3 (-1))) = 0 →
(Ok G mX6_strengthOf d 0 0 [vR 30, vI s5] M (fun v M3 => ∃ r4 : Int, v = some (vI r4) ∧ ShX M3 ∧ 
((a1 ≤ r4 →
(Ok G mX6_costOf d 0 0 [vR 30, vI s5, vI a2] M3 (fun v M6 => ∃ r7 : Int, v = some (vI r7) ∧ ShX M6 ∧ 
((s4 = 0 →
(∀ M9 : MM, M9 = stI M6 87 1 r7 →
(∀ M10 : MM, M10 = stI M9 87 0 s5 →
(R32 (s5 + 1) ∧
(Wp G mX3_findLeast (d + 1) 0 0 15 [some (vR 87), some (vI a1), some (vI a2), some (vI s3), some (vI 1), some (vI (s5 + 1)), none] [] M10 0 0 Q))))) ∧
(¬ (s4 = 0) →
(Ok G mX3_isBetter d 0 0 [vI r7, vI s5, vI (gI M6 87 1), vI (gI M6 87 0)] M6 (fun v M11 => ∃ r12 : Int, v = some (vI r12) ∧ ShX M11 ∧ 
((r12 = 0 →
(R32 (s5 + 1) ∧
(Wp G mX3_findLeast (d + 1) 0 0 15 [some (vR 87), some (vI a1), some (vI a2), some (vI s3), some (vI s4), some (vI (s5 + 1)), none] [] M11 0 0 Q))) ∧
(¬ (r12 = 0) →
(∀ M14 : MM, M14 = stI M11 87 1 r7 →
(∀ M15 : MM, M15 = stI M14 87 0 s5 →
(R32 (s5 + 1) ∧
(Wp G mX3_findLeast (d + 1) 0 0 15 [some (vR 87), some (vI a1), some (vI a2), some (vI s3), some (vI 1), some (vI (s5 + 1)), none] [] M15 0 0 Q))))))))))))) ∧
(¬ (a1 ≤ r4) →
(R32 (s5 + 1) ∧
(Wp G mX3_findLeast (d + 1) 0 0 15 [some (vR 87), some (vI a1), some (vI a2), some (vI s3), some (vI s4), some (vI (s5 + 1)), none] [] M3 0 0 Q)))))))))) :
  Wp G mX3_findLeast (d + 1) 0 0 15 [some (vR 87), some (vI a1), some (vI a2), some (vI s3), some (vI s4), some (vI s5), none] [] M 0 0 Q := by
  refine wg_iload dX3_findLeast_15 rfl ?_
  refine wg_aload_n dX3_findLeast_17 rfl (Nat.succ_ne_zero _) ?_
  refine wg_getRe dX3_findLeast_18 (fl_X3_48 rfl) rfl rfl (x87 hS 4 (r := 30) (Nat.le_of_ble_eq_true rfl) (Nat.le_of_ble_eq_true rfl) rfl) ?_
  refine wg_getI dX3_findLeast_21 (fl_X3_56 rfl) rfl rfl ?_
  refine wg_icmp_ge dX3_findLeast_24 rfl (fun c1 => ?_) (fun c1 => ?_)
  · replace h := h.1 c1
    refine wg_iload dX3_findLeast_108 rfl ?_
    obtain ⟨o, h⟩ := h
    exact wp_zret rfl dX3_findLeast_110 ⟨Nat.le_refl _, Nat.le_refl _⟩ o h
  · replace h := h.2 c1
    refine wg_iload dX3_findLeast_27 rfl ?_
    refine wg_iload_n dX3_findLeast_29 rfl ?_
    refine wg_iconst dX3_findLeast_30 qiconst_m1 ?_
    refine wg_ixor dX3_findLeast_31 ?_
    refine wg_iand dX3_findLeast_32 ?_
    refine wg_if_ne dX3_findLeast_33 rfl (fun c2 => ?_) (fun c2 => ?_)
    · replace h := h.1 c2
      obtain ⟨o, h⟩ := h
      refine wg_iinc (L' := [some (vR 87), some (vI a1), some (vI a2), some (vI s3), some (vI s4), some (vI (s5 + 1)), none]) dX3_findLeast_102 (Nat.le_of_ble_eq_true rfl) rfl rfl o ?_
      refine wg_goto dX3_findLeast_105 rfl ?_
      exact h
    · replace h := h.2 c2
      refine wg_aload_n dX3_findLeast_36 rfl (Nat.succ_ne_zero _) ?_
      refine wg_getRe dX3_findLeast_37 (fl_X3_48 rfl) rfl rfl (x87 hS 4 (r := 30) (Nat.le_of_ble_eq_true rfl) (Nat.le_of_ble_eq_true rfl) rfl) ?_
      refine wg_iload dX3_findLeast_40 rfl ?_
      refine wg_callV (I' := mX6_strengthOf) (ci := 6) (np := 1) (d' := d) (q := 30) (as := [vI s5]) (st := []) dX3_findLeast_42 lk_X3_59 ci_X6_strengthOf rfl (Nat.le_of_ble_eq_true rfl) rfl rfl (Nat.le_of_ble_eq_true rfl) rfl (Nat.le_refl _) ⟨Nat.le_refl _, Nat.le_refl _⟩ h (fun v M3 h => ?_)
      obtain ⟨r4, rfl, hS, h⟩ := h
      refine wg_iload_n dX3_findLeast_45 rfl ?_
      refine wg_icmp_ge dX3_findLeast_46 rfl (fun c5 => ?_) (fun c5 => ?_)
      · replace h := h.1 c5
        refine wg_aload_n dX3_findLeast_52 rfl (Nat.succ_ne_zero _) ?_
        refine wg_getRe dX3_findLeast_53 (fl_X3_48 rfl) rfl rfl (x87 hS 4 (r := 30) (Nat.le_of_ble_eq_true rfl) (Nat.le_of_ble_eq_true rfl) rfl) ?_
        refine wg_iload dX3_findLeast_56 rfl ?_
        refine wg_iload_n dX3_findLeast_58 rfl ?_
        refine wg_callV (I' := mX6_costOf) (ci := 6) (np := 2) (d' := d) (q := 30) (as := [vI s5, vI a2]) (st := []) dX3_findLeast_59 lk_X3_62 ci_X6_costOf rfl (Nat.le_of_ble_eq_true rfl) rfl rfl (Nat.le_of_ble_eq_true rfl) rfl (Nat.le_refl _) ⟨Nat.le_refl _, Nat.le_refl _⟩ h (fun v M6 h => ?_)
        obtain ⟨r7, rfl, hS, h⟩ := h
        refine wg_istore (L' := [some (vR 87), some (vI a1), some (vI a2), some (vI s3), some (vI s4), some (vI s5), some (vI r7)]) dX3_findLeast_62 (Nat.le_of_ble_eq_true rfl) rfl ?_
        refine wg_iload dX3_findLeast_64 rfl ?_
        refine wg_if_eq dX3_findLeast_66 rfl (fun c8 => ?_) (fun c8 => ?_)
        · replace h := h.1 c8
          refine wg_iconst dX3_findLeast_87 qiconst_1 ?_
          refine wg_istore (L' := [some (vR 87), some (vI a1), some (vI a2), some (vI s3), some (vI 1), some (vI s5), some (vI r7)]) dX3_findLeast_88 (Nat.le_of_ble_eq_true rfl) rfl ?_
          refine wg_aload_n dX3_findLeast_90 rfl (Nat.succ_ne_zero _) ?_
          refine wg_iload dX3_findLeast_91 rfl ?_
          refine wg_putI dX3_findLeast_93 (fl_X3_17 rfl) rfl rfl rfl ?_
          generalize hM : stI M6 87 1 r7 = M9
          replace h := h _ hM.symm
          replace hS : ShX M9 := by rw [← hM]; exact hS
          clear hM
          refine wg_aload_n dX3_findLeast_96 rfl (Nat.succ_ne_zero _) ?_
          refine wg_iload dX3_findLeast_97 rfl ?_
          refine wg_putI dX3_findLeast_99 (fl_X3_11 rfl) rfl rfl rfl ?_
          generalize hM : stI M9 87 0 s5 = M10
          replace h := h _ hM.symm
          replace hS : ShX M10 := by rw [← hM]; exact hS
          clear hM
          obtain ⟨o, h⟩ := h
          refine wg_iinc (L' := [some (vR 87), some (vI a1), some (vI a2), some (vI s3), some (vI 1), some (vI (s5 + 1)), some (vI r7)]) dX3_findLeast_102 (Nat.le_of_ble_eq_true rfl) rfl rfl o ?_
          refine wg_goto dX3_findLeast_105 rfl ?_
          refine wg_weak [true, true, true, true, true, true, false] rfl ?_
          exact h
        · replace h := h.2 c8
          refine wg_iload dX3_findLeast_69 rfl ?_
          refine wg_iload dX3_findLeast_71 rfl ?_
          refine wg_aload_n dX3_findLeast_73 rfl (Nat.succ_ne_zero _) ?_
          refine wg_getI dX3_findLeast_74 (fl_X3_17 rfl) rfl rfl ?_
          refine wg_aload_n dX3_findLeast_77 rfl (Nat.succ_ne_zero _) ?_
          refine wg_getI dX3_findLeast_78 (fl_X3_11 rfl) rfl rfl ?_
          refine wg_callS (I' := mX3_isBetter) (np := 4) (d' := d) (as := [vI r7, vI s5, vI (gI M6 87 1), vI (gI M6 87 0)]) (st := []) dX3_findLeast_81 lk_X3_66 ci_X3_isBetter rfl rfl (Nat.le_of_ble_eq_true rfl) (Nat.le_refl _) ⟨Nat.le_refl _, Nat.le_refl _⟩ h (fun v M11 h => ?_)
          obtain ⟨r12, rfl, hS, h⟩ := h
          refine wg_if_eq dX3_findLeast_84 rfl (fun c13 => ?_) (fun c13 => ?_)
          · replace h := h.1 c13
            obtain ⟨o, h⟩ := h
            refine wg_iinc (L' := [some (vR 87), some (vI a1), some (vI a2), some (vI s3), some (vI s4), some (vI (s5 + 1)), some (vI r7)]) dX3_findLeast_102 (Nat.le_of_ble_eq_true rfl) rfl rfl o ?_
            refine wg_goto dX3_findLeast_105 rfl ?_
            refine wg_weak [true, true, true, true, true, true, false] rfl ?_
            exact h
          · replace h := h.2 c13
            refine wg_iconst dX3_findLeast_87 qiconst_1 ?_
            refine wg_istore (L' := [some (vR 87), some (vI a1), some (vI a2), some (vI s3), some (vI 1), some (vI s5), some (vI r7)]) dX3_findLeast_88 (Nat.le_of_ble_eq_true rfl) rfl ?_
            refine wg_aload_n dX3_findLeast_90 rfl (Nat.succ_ne_zero _) ?_
            refine wg_iload dX3_findLeast_91 rfl ?_
            refine wg_putI dX3_findLeast_93 (fl_X3_17 rfl) rfl rfl rfl ?_
            generalize hM : stI M11 87 1 r7 = M14
            replace h := h _ hM.symm
            replace hS : ShX M14 := by rw [← hM]; exact hS
            clear hM
            refine wg_aload_n dX3_findLeast_96 rfl (Nat.succ_ne_zero _) ?_
            refine wg_iload dX3_findLeast_97 rfl ?_
            refine wg_putI dX3_findLeast_99 (fl_X3_11 rfl) rfl rfl rfl ?_
            generalize hM : stI M14 87 0 s5 = M15
            replace h := h _ hM.symm
            replace hS : ShX M15 := by rw [← hM]; exact hS
            clear hM
            obtain ⟨o, h⟩ := h
            refine wg_iinc (L' := [some (vR 87), some (vI a1), some (vI a2), some (vI s3), some (vI 1), some (vI (s5 + 1)), some (vI r7)]) dX3_findLeast_102 (Nat.le_of_ble_eq_true rfl) rfl rfl o ?_
            refine wg_goto dX3_findLeast_105 rfl ?_
            refine wg_weak [true, true, true, true, true, true, false] rfl ?_
            exact h
      · replace h := h.2 c5
        refine wg_goto dX3_findLeast_49 rfl ?_
        obtain ⟨o, h⟩ := h
        refine wg_iinc (L' := [some (vR 87), some (vI a1), some (vI a2), some (vI s3), some (vI s4), some (vI (s5 + 1)), none]) dX3_findLeast_102 (Nat.le_of_ble_eq_true rfl) rfl rfl o ?_
        refine wg_goto dX3_findLeast_105 rfl ?_
        exact h
set_option maxRecDepth 100000 in
theorem bX3_isBetter_0 {G : GG} {d : Nat} {M : MM} {Q : Option AV → MM → Prop} (a0 : Int) (a1 : Int) (a2 : Int) (a3 : Int) (h :
(a0 = a2 →
(Ok G mJ6_bitCount_0f7a4 d 0 0 [vI a1] M (fun v M2 => ∃ r3 : Int, v = some (vI r3) ∧ 
(Ok G mJ6_bitCount_0f7a4 d 0 0 [vI a3] M2 (fun v M4 => ∃ r5 : Int, v = some (vI r5) ∧ 
((r5 ≤ r3 →
(Q (some (vI 0)) M4)) ∧
(¬ (r5 ≤ r3) →
(Q (some (vI 1)) M4)))))))) ∧
(¬ (a0 = a2) →
((a2 ≤ a0 →
(Q (some (vI 0)) M)) ∧
(¬ (a2 ≤ a0) →
(Q (some (vI 1)) M))))) :
  Wp G mX3_isBetter (d + 1) 0 0 0 [some (vI a0), some (vI a1), some (vI a2), some (vI a3)] [] M 0 0 Q := by
  refine wg_iload_n dX3_isBetter_0 rfl ?_
  refine wg_iload_n dX3_isBetter_1 rfl ?_
  refine wg_icmp_eq dX3_isBetter_2 rfl (fun c1 => ?_) (fun c1 => ?_)
  · replace h := h.1 c1
    refine wg_iload_n dX3_isBetter_16 rfl ?_
    refine wg_callS (I' := mJ6_bitCount_0f7a4) (np := 1) (d' := d) (as := [vI a1]) (st := []) dX3_isBetter_17 lk_X3_70 ci_J6_bitCount_0f7a4 rfl rfl (Nat.le_of_ble_eq_true rfl) (Nat.le_refl _) ⟨Nat.le_refl _, Nat.le_refl _⟩ h (fun v M2 h => ?_)
    obtain ⟨r3, rfl, h⟩ := h
    refine wg_iload_n dX3_isBetter_20 rfl ?_
    refine wg_callS (I' := mJ6_bitCount_0f7a4) (np := 1) (d' := d) (as := [vI a3]) (st := [vI r3]) dX3_isBetter_21 lk_X3_70 ci_J6_bitCount_0f7a4 rfl rfl (Nat.le_of_ble_eq_true rfl) (Nat.le_refl _) ⟨Nat.le_refl _, Nat.le_refl _⟩ h (fun v M4 h => ?_)
    obtain ⟨r5, rfl, h⟩ := h
    refine wg_icmp_ge dX3_isBetter_24 rfl (fun c6 => ?_) (fun c6 => ?_)
    · replace h := h.1 c6
      refine wg_iconst dX3_isBetter_31 qiconst_0 ?_
      exact wp_zret rfl dX3_isBetter_32 ⟨Nat.le_refl _, Nat.le_refl _⟩ (Or.inl rfl) h
    · replace h := h.2 c6
      refine wg_iconst dX3_isBetter_27 qiconst_1 ?_
      refine wg_goto dX3_isBetter_28 rfl ?_
      exact wp_zret rfl dX3_isBetter_32 ⟨Nat.le_refl _, Nat.le_refl _⟩ (Or.inr rfl) h
  · replace h := h.2 c1
    refine wg_iload_n dX3_isBetter_5 rfl ?_
    refine wg_iload_n dX3_isBetter_6 rfl ?_
    refine wg_icmp_ge dX3_isBetter_7 rfl (fun c7 => ?_) (fun c7 => ?_)
    · replace h := h.1 c7
      refine wg_iconst dX3_isBetter_14 qiconst_0 ?_
      exact wp_zret rfl dX3_isBetter_15 ⟨Nat.le_refl _, Nat.le_refl _⟩ (Or.inl rfl) h
    · replace h := h.2 c7
      refine wg_iconst dX3_isBetter_10 qiconst_1 ?_
      refine wg_goto dX3_isBetter_11 rfl ?_
      exact wp_zret rfl dX3_isBetter_15 ⟨Nat.le_refl _, Nat.le_refl _⟩ (Or.inr rfl) h
set_option maxRecDepth 100000 in
theorem bX3_ribbonInAll_0 {G : GG} {d : Nat} {M : MM} {Q : Option AV → MM → Prop} (a1 : Int) (hS : ShX M) (h :
(a1 < 0 →
(Q (some (vI 0)) M)) ∧
(¬ (a1 < 0) →
((4 ≤ a1 →
(Q (some (vI 0)) M)) ∧
(¬ (4 ≤ a1) →
(((0 : Int) ≤ a1 ∧ (a1 : Int) < 4) ∧
(Q (some (vI (gI M 88 a1.toNat))) M)))))) :
  Wp G mX3_ribbonInAll d 0 0 0 [some (vR 87), some (vI a1)] [] M 0 0 Q := by
  refine wg_iload_n dX3_ribbonInAll_0 rfl ?_
  refine wg_if_lt dX3_ribbonInAll_1 rfl (fun c1 => ?_) (fun c1 => ?_)
  · replace h := h.1 c1
    refine wg_iconst dX3_ribbonInAll_18 qiconst_0 ?_
    exact wp_iret rfl dX3_ribbonInAll_19 ⟨Nat.le_refl _, Nat.le_refl _⟩ h
  · replace h := h.2 c1
    refine wg_iload_n dX3_ribbonInAll_4 rfl ?_
    refine wg_iconst dX3_ribbonInAll_5 qiconst_4 ?_
    refine wg_icmp_ge dX3_ribbonInAll_6 rfl (fun c2 => ?_) (fun c2 => ?_)
    · replace h := h.1 c2
      refine wg_iconst dX3_ribbonInAll_18 qiconst_0 ?_
      exact wp_iret rfl dX3_ribbonInAll_19 ⟨Nat.le_refl _, Nat.le_refl _⟩ h
    · replace h := h.2 c2
      refine wg_aload_n dX3_ribbonInAll_9 rfl (Nat.succ_ne_zero _) ?_
      refine wg_getRe dX3_ribbonInAll_10 (fl_X3_26 rfl) rfl rfl (x87 hS 5 (r := 88) (Nat.le_of_ble_eq_true rfl) (Nat.le_of_ble_eq_true rfl) rfl) ?_
      refine wg_iload_n dX3_ribbonInAll_13 rfl ?_
      obtain ⟨o3, h⟩ := h
      refine wg_iald dX3_ribbonInAll_14 rfl o3.1 o3.2 ?_
      refine wg_goto dX3_ribbonInAll_15 rfl ?_
      exact wp_iret rfl dX3_ribbonInAll_19 ⟨Nat.le_refl _, Nat.le_refl _⟩ h
set_option maxRecDepth 100000 in
theorem bX3_findAll_0 {G : GG} {d : Nat} {M : MM} {Q : Option AV → MM → Prop} (p1 : Nat) (hk1 : kd p1 = 7) (p2 : Nat) (hk2 : kd p2 = 5) (hS : ShX M) (h :
Ok G mX3_listLoose d 0 0 [vR 87, vR p1, vR p2] M (fun v M1 => v = none ∧ ShX M1 ∧ 
(Ok G mX5_gone d 0 0 [vR p2] M1 (fun v M2 => ∃ r3 : Int, v = some (vI r3) ∧ ShX M2 ∧ 
(Ok G mX6_thereBesides d 0 0 [vR 30, vI r3] M2 (fun v M4 => ∃ r5 : Int, v = some (vI r5) ∧ ShX M4 ∧ 
(Wp G mX3_findAll (d + 1) 0 0 27 [some (vR 87), none, none, some (vI r3), some (vI r5), some (vI 0), some (vI 0), none] [] M4 0 0 Q))))))) :
  Wp G mX3_findAll (d + 1) 0 0 0 [some (vR 87), some (vR p1), some (vR p2), none, none, none, none, none] [] M 0 0 Q := by
  refine wg_aload_n dX3_findAll_0 rfl (Nat.succ_ne_zero _) ?_
  refine wg_aload_n dX3_findAll_1 rfl (kn7 hk1) ?_
  refine wg_aload_n dX3_findAll_2 rfl (kn5 hk2) ?_
  refine wg_callV (I' := mX3_listLoose) (ci := 3) (np := 2) (d' := d) (q := 87) (as := [vR p1, vR p2]) (st := []) dX3_findAll_3 lk_X3_75 ci_X3_listLoose rfl (Nat.le_of_ble_eq_true rfl) rfl rfl (Nat.le_of_ble_eq_true rfl) rfl (Nat.le_refl _) ⟨Nat.le_refl _, Nat.le_refl _⟩ h (fun v M1 h => ?_)
  obtain ⟨rfl, hS, h⟩ := h
  refine wg_aload_n dX3_findAll_6 rfl (kn5 hk2) ?_
  refine wg_callV (I' := mX5_gone) (ci := 5) (np := 0) (d' := d) (q := p2) (as := []) (st := []) dX3_findAll_7 lk_X3_79 ci_X5_gone rfl (Nat.le_of_ble_eq_true rfl) rfl rfl (Nat.le_of_ble_eq_true rfl) hk2 (Nat.le_refl _) ⟨Nat.le_refl _, Nat.le_refl _⟩ h (fun v M2 h => ?_)
  obtain ⟨r3, rfl, hS, h⟩ := h
  refine wg_istore_n (L' := [some (vR 87), some (vR p1), some (vR p2), some (vI r3), none, none, none, none]) dX3_findAll_10 (Nat.le_of_ble_eq_true rfl) rfl ?_
  refine wg_aload_n dX3_findAll_11 rfl (Nat.succ_ne_zero _) ?_
  refine wg_getRe dX3_findAll_12 (fl_X3_48 rfl) rfl rfl (x87 hS 4 (r := 30) (Nat.le_of_ble_eq_true rfl) (Nat.le_of_ble_eq_true rfl) rfl) ?_
  refine wg_iload_n dX3_findAll_15 rfl ?_
  refine wg_callV (I' := mX6_thereBesides) (ci := 6) (np := 1) (d' := d) (q := 30) (as := [vI r3]) (st := []) dX3_findAll_16 lk_X3_52 ci_X6_thereBesides rfl (Nat.le_of_ble_eq_true rfl) rfl rfl (Nat.le_of_ble_eq_true rfl) rfl (Nat.le_refl _) ⟨Nat.le_refl _, Nat.le_refl _⟩ h (fun v M4 h => ?_)
  obtain ⟨r5, rfl, hS, h⟩ := h
  refine wg_istore (L' := [some (vR 87), some (vR p1), some (vR p2), some (vI r3), some (vI r5), none, none, none]) dX3_findAll_19 (Nat.le_of_ble_eq_true rfl) rfl ?_
  refine wg_iconst dX3_findAll_21 qiconst_0 ?_
  refine wg_istore (L' := [some (vR 87), some (vR p1), some (vR p2), some (vI r3), some (vI r5), some (vI 0), none, none]) dX3_findAll_22 (Nat.le_of_ble_eq_true rfl) rfl ?_
  refine wg_iconst dX3_findAll_24 qiconst_0 ?_
  refine wg_istore (L' := [some (vR 87), some (vR p1), some (vR p2), some (vI r3), some (vI r5), some (vI 0), some (vI 0), none]) dX3_findAll_25 (Nat.le_of_ble_eq_true rfl) rfl ?_
  refine wg_weak [true, false, false, true, true, true, true, false] rfl ?_
  exact h
set_option maxRecDepth 100000 in
theorem bX3_findAll_27 {G : GG} {d : Nat} {M : MM} {Q : Option AV → MM → Prop} (s3 : Int) (s4 : Int) (s5 : Int) (s6 : Int) (hS : ShX M) (h :
((gI M 30 0) ≤ s6 →
((s5 = 0 →
((s5 = 0 ∨ s5 = 1) ∧ Q (some (vI s5)) M)) ∧
(¬ (s5 = 0) →
(Ok G mX3_shareOut d 0 0 [vR 87, vI (gI M 87 2)] M (fun v M3 => v = none ∧ ShX M3 ∧ 
((s5 = 0 ∨ s5 = 1) ∧ Q (some (vI s5)) M3)))))) ∧
(¬ ((gI M 30 0) ≤ s6) →
((1024 ≤ s6 →
((s5 = 0 →
((s5 = 0 ∨ s5 = 1) ∧ Q (some (vI s5)) M)) ∧
(¬ (s5 = 0) →
(Ok G mX3_shareOut d 0 0 [vR 87, vI (gI M 87 2)] M (fun v M6 => v = none ∧ ShX M6 ∧ 
((s5 = 0 ∨ s5 = 1) ∧ Q (some (vI s5)) M6)))))) ∧
(¬ (1024 ≤ s6) →
(((iandv s6 (ixorv s4 (-1))) = 0 →
(Ok G mX3_whoIsHeldBy d 0 0 [vR 87, vI s6] M (fun v M8 => ∃ r9 : Int, v = some (vI r9) ∧ ShX M8 ∧ 
(((0 : Int) ≤ s6 ∧ (s6 : Int) < 1024) ∧
(∀ M11 : MM, M11 = stI M8 92 s6.toNat r9 →
((((iandv (gI M11 92 s6.toNat) 1) ≠ 0 →
(Ok G mX6_costOf d 0 0 [vR 30, vI s6, vI s3] M11 (fun v M13 => ∃ r14 : Int, v = some (vI r14) ∧ ShX M13 ∧ 
((s5 = 0 →
(∀ M16 : MM, M16 = stI M13 87 3 r14 →
(∀ M17 : MM, M17 = stI M16 87 2 s6 →
(R32 (s6 + 1) ∧
(Wp G mX3_findAll (d + 1) 0 0 27 [some (vR 87), none, none, some (vI s3), some (vI s4), some (vI 1), some (vI (s6 + 1)), none] [] M17 0 0 Q))))) ∧
(¬ (s5 = 0) →
(Ok G mX3_isBetter d 0 0 [vI r14, vI s6, vI (gI M13 87 3), vI (gI M13 87 2)] M13 (fun v M18 => ∃ r19 : Int, v = some (vI r19) ∧ ShX M18 ∧ 
((r19 = 0 →
(R32 (s6 + 1) ∧
(Wp G mX3_findAll (d + 1) 0 0 27 [some (vR 87), none, none, some (vI s3), some (vI s4), some (vI s5), some (vI (s6 + 1)), none] [] M18 0 0 Q))) ∧
(¬ (r19 = 0) →
(∀ M21 : MM, M21 = stI M18 87 3 r14 →
(∀ M22 : MM, M22 = stI M21 87 2 s6 →
(R32 (s6 + 1) ∧
(Wp G mX3_findAll (d + 1) 0 0 27 [some (vR 87), none, none, some (vI s3), some (vI s4), some (vI 1), some (vI (s6 + 1)), none] [] M22 0 0 Q))))))))))))) ∧
((iandv (gI M11 92 s6.toNat) 1) = 0 →
(R32 (s6 + 1) ∧
(Wp G mX3_findAll (d + 1) 0 0 27 [some (vR 87), none, none, some (vI s3), some (vI s4), some (vI s5), some (vI (s6 + 1)), none] [] M11 0 0 Q)))))))))) ∧
(¬ ((iandv s6 (ixorv s4 (-1))) = 0) →
(R32 (s6 + 1) ∧
(Wp G mX3_findAll (d + 1) 0 0 27 [some (vR 87), none, none, some (vI s3), some (vI s4), some (vI s5), some (vI (s6 + 1)), none] [] M 0 0 Q)))))))) :
  Wp G mX3_findAll (d + 1) 0 0 27 [some (vR 87), none, none, some (vI s3), some (vI s4), some (vI s5), some (vI s6), none] [] M 0 0 Q := by
  refine wg_iload dX3_findAll_27 rfl ?_
  refine wg_aload_n dX3_findAll_29 rfl (Nat.succ_ne_zero _) ?_
  refine wg_getRe dX3_findAll_30 (fl_X3_48 rfl) rfl rfl (x87 hS 4 (r := 30) (Nat.le_of_ble_eq_true rfl) (Nat.le_of_ble_eq_true rfl) rfl) ?_
  refine wg_getI dX3_findAll_33 (fl_X3_56 rfl) rfl rfl ?_
  refine wg_icmp_ge dX3_findAll_36 rfl (fun c1 => ?_) (fun c1 => ?_)
  · replace h := h.1 c1
    refine wg_iload dX3_findAll_144 rfl ?_
    refine wg_if_eq dX3_findAll_146 rfl (fun c2 => ?_) (fun c2 => ?_)
    · replace h := h.1 c2
      refine wg_iload dX3_findAll_157 rfl ?_
      obtain ⟨o, h⟩ := h
      exact wp_zret rfl dX3_findAll_159 ⟨Nat.le_refl _, Nat.le_refl _⟩ o h
    · replace h := h.2 c2
      refine wg_aload_n dX3_findAll_149 rfl (Nat.succ_ne_zero _) ?_
      refine wg_aload_n dX3_findAll_150 rfl (Nat.succ_ne_zero _) ?_
      refine wg_getI dX3_findAll_151 (fl_X3_20 rfl) rfl rfl ?_
      refine wg_callV (I' := mX3_shareOut) (ci := 3) (np := 1) (d' := d) (q := 87) (as := [vI (gI M 87 2)]) (st := []) dX3_findAll_154 lk_X3_88 ci_X3_shareOut rfl (Nat.le_of_ble_eq_true rfl) rfl rfl (Nat.le_of_ble_eq_true rfl) rfl (Nat.le_refl _) ⟨Nat.le_refl _, Nat.le_refl _⟩ h (fun v M3 h => ?_)
      obtain ⟨rfl, hS, h⟩ := h
      refine wg_iload dX3_findAll_157 rfl ?_
      obtain ⟨o, h⟩ := h
      exact wp_zret rfl dX3_findAll_159 ⟨Nat.le_refl _, Nat.le_refl _⟩ o h
  · replace h := h.2 c1
    refine wg_iload dX3_findAll_39 rfl ?_
    refine wg_sipush dX3_findAll_41 qsipush_1024 ?_
    refine wg_icmp_ge dX3_findAll_44 rfl (fun c4 => ?_) (fun c4 => ?_)
    · replace h := h.1 c4
      refine wg_iload dX3_findAll_144 rfl ?_
      refine wg_if_eq dX3_findAll_146 rfl (fun c5 => ?_) (fun c5 => ?_)
      · replace h := h.1 c5
        refine wg_iload dX3_findAll_157 rfl ?_
        obtain ⟨o, h⟩ := h
        exact wp_zret rfl dX3_findAll_159 ⟨Nat.le_refl _, Nat.le_refl _⟩ o h
      · replace h := h.2 c5
        refine wg_aload_n dX3_findAll_149 rfl (Nat.succ_ne_zero _) ?_
        refine wg_aload_n dX3_findAll_150 rfl (Nat.succ_ne_zero _) ?_
        refine wg_getI dX3_findAll_151 (fl_X3_20 rfl) rfl rfl ?_
        refine wg_callV (I' := mX3_shareOut) (ci := 3) (np := 1) (d' := d) (q := 87) (as := [vI (gI M 87 2)]) (st := []) dX3_findAll_154 lk_X3_88 ci_X3_shareOut rfl (Nat.le_of_ble_eq_true rfl) rfl rfl (Nat.le_of_ble_eq_true rfl) rfl (Nat.le_refl _) ⟨Nat.le_refl _, Nat.le_refl _⟩ h (fun v M6 h => ?_)
        obtain ⟨rfl, hS, h⟩ := h
        refine wg_iload dX3_findAll_157 rfl ?_
        obtain ⟨o, h⟩ := h
        exact wp_zret rfl dX3_findAll_159 ⟨Nat.le_refl _, Nat.le_refl _⟩ o h
    · replace h := h.2 c4
      refine wg_iload dX3_findAll_47 rfl ?_
      refine wg_iload dX3_findAll_49 rfl ?_
      refine wg_iconst dX3_findAll_51 qiconst_m1 ?_
      refine wg_ixor dX3_findAll_52 ?_
      refine wg_iand dX3_findAll_53 ?_
      refine wg_if_eq dX3_findAll_54 rfl (fun c7 => ?_) (fun c7 => ?_)
      · replace h := h.1 c7
        refine wg_aload_n dX3_findAll_60 rfl (Nat.succ_ne_zero _) ?_
        refine wg_getRe dX3_findAll_61 (fl_X3_39 rfl) rfl rfl (x87 hS 9 (r := 92) (Nat.le_of_ble_eq_true rfl) (Nat.le_of_ble_eq_true rfl) rfl) ?_
        refine wg_iload dX3_findAll_64 rfl ?_
        refine wg_aload_n dX3_findAll_66 rfl (Nat.succ_ne_zero _) ?_
        refine wg_iload dX3_findAll_67 rfl ?_
        refine wg_callV (I' := mX3_whoIsHeldBy) (ci := 3) (np := 1) (d' := d) (q := 87) (as := [vI s6]) (st := [vI s6, vR 92]) dX3_findAll_69 lk_X3_85 ci_X3_whoIsHeldBy rfl (Nat.le_of_ble_eq_true rfl) rfl rfl (Nat.le_of_ble_eq_true rfl) rfl (Nat.le_refl _) ⟨Nat.le_refl _, Nat.le_refl _⟩ h (fun v M8 h => ?_)
        obtain ⟨r9, rfl, hS, h⟩ := h
        obtain ⟨o10, h⟩ := h
        refine wg_iast dX3_findAll_72 rfl o10.1 o10.2 ?_
        generalize hM : stI M8 92 s6.toNat r9 = M11
        replace h := h _ hM.symm
        replace hS : ShX M11 := by rw [← hM]; exact hS
        clear hM
        refine wg_aload_n dX3_findAll_73 rfl (Nat.succ_ne_zero _) ?_
        refine wg_getRe dX3_findAll_74 (fl_X3_39 rfl) rfl rfl (x87 hS 9 (r := 92) (Nat.le_of_ble_eq_true rfl) (Nat.le_of_ble_eq_true rfl) rfl) ?_
        refine wg_iload dX3_findAll_77 rfl ?_
        refine wg_iald dX3_findAll_79 rfl o10.1 o10.2 ?_
        refine wg_iconst dX3_findAll_80 qiconst_1 ?_
        refine wg_iand dX3_findAll_81 ?_
        refine wg_if_ne dX3_findAll_82 rfl (fun c12 => ?_) (fun c12 => ?_)
        · replace h := h.1 c12
          refine wg_aload_n dX3_findAll_88 rfl (Nat.succ_ne_zero _) ?_
          refine wg_getRe dX3_findAll_89 (fl_X3_48 rfl) rfl rfl (x87 hS 4 (r := 30) (Nat.le_of_ble_eq_true rfl) (Nat.le_of_ble_eq_true rfl) rfl) ?_
          refine wg_iload dX3_findAll_92 rfl ?_
          refine wg_iload_n dX3_findAll_94 rfl ?_
          refine wg_callV (I' := mX6_costOf) (ci := 6) (np := 2) (d' := d) (q := 30) (as := [vI s6, vI s3]) (st := []) dX3_findAll_95 lk_X3_62 ci_X6_costOf rfl (Nat.le_of_ble_eq_true rfl) rfl rfl (Nat.le_of_ble_eq_true rfl) rfl (Nat.le_refl _) ⟨Nat.le_refl _, Nat.le_refl _⟩ h (fun v M13 h => ?_)
          obtain ⟨r14, rfl, hS, h⟩ := h
          refine wg_istore (L' := [some (vR 87), none, none, some (vI s3), some (vI s4), some (vI s5), some (vI s6), some (vI r14)]) dX3_findAll_98 (Nat.le_of_ble_eq_true rfl) rfl ?_
          refine wg_iload dX3_findAll_100 rfl ?_
          refine wg_if_eq dX3_findAll_102 rfl (fun c15 => ?_) (fun c15 => ?_)
          · replace h := h.1 c15
            refine wg_iconst dX3_findAll_123 qiconst_1 ?_
            refine wg_istore (L' := [some (vR 87), none, none, some (vI s3), some (vI s4), some (vI 1), some (vI s6), some (vI r14)]) dX3_findAll_124 (Nat.le_of_ble_eq_true rfl) rfl ?_
            refine wg_aload_n dX3_findAll_126 rfl (Nat.succ_ne_zero _) ?_
            refine wg_iload dX3_findAll_127 rfl ?_
            refine wg_putI dX3_findAll_129 (fl_X3_23 rfl) rfl rfl rfl ?_
            generalize hM : stI M13 87 3 r14 = M16
            replace h := h _ hM.symm
            replace hS : ShX M16 := by rw [← hM]; exact hS
            clear hM
            refine wg_aload_n dX3_findAll_132 rfl (Nat.succ_ne_zero _) ?_
            refine wg_iload dX3_findAll_133 rfl ?_
            refine wg_putI dX3_findAll_135 (fl_X3_20 rfl) rfl rfl rfl ?_
            generalize hM : stI M16 87 2 s6 = M17
            replace h := h _ hM.symm
            replace hS : ShX M17 := by rw [← hM]; exact hS
            clear hM
            obtain ⟨o, h⟩ := h
            refine wg_iinc (L' := [some (vR 87), none, none, some (vI s3), some (vI s4), some (vI 1), some (vI (s6 + 1)), some (vI r14)]) dX3_findAll_138 (Nat.le_of_ble_eq_true rfl) rfl rfl o ?_
            refine wg_goto dX3_findAll_141 rfl ?_
            refine wg_weak [true, false, false, true, true, true, true, false] rfl ?_
            exact h
          · replace h := h.2 c15
            refine wg_iload dX3_findAll_105 rfl ?_
            refine wg_iload dX3_findAll_107 rfl ?_
            refine wg_aload_n dX3_findAll_109 rfl (Nat.succ_ne_zero _) ?_
            refine wg_getI dX3_findAll_110 (fl_X3_23 rfl) rfl rfl ?_
            refine wg_aload_n dX3_findAll_113 rfl (Nat.succ_ne_zero _) ?_
            refine wg_getI dX3_findAll_114 (fl_X3_20 rfl) rfl rfl ?_
            refine wg_callS (I' := mX3_isBetter) (np := 4) (d' := d) (as := [vI r14, vI s6, vI (gI M13 87 3), vI (gI M13 87 2)]) (st := []) dX3_findAll_117 lk_X3_66 ci_X3_isBetter rfl rfl (Nat.le_of_ble_eq_true rfl) (Nat.le_refl _) ⟨Nat.le_refl _, Nat.le_refl _⟩ h (fun v M18 h => ?_)
            obtain ⟨r19, rfl, hS, h⟩ := h
            refine wg_if_eq dX3_findAll_120 rfl (fun c20 => ?_) (fun c20 => ?_)
            · replace h := h.1 c20
              obtain ⟨o, h⟩ := h
              refine wg_iinc (L' := [some (vR 87), none, none, some (vI s3), some (vI s4), some (vI s5), some (vI (s6 + 1)), some (vI r14)]) dX3_findAll_138 (Nat.le_of_ble_eq_true rfl) rfl rfl o ?_
              refine wg_goto dX3_findAll_141 rfl ?_
              refine wg_weak [true, false, false, true, true, true, true, false] rfl ?_
              exact h
            · replace h := h.2 c20
              refine wg_iconst dX3_findAll_123 qiconst_1 ?_
              refine wg_istore (L' := [some (vR 87), none, none, some (vI s3), some (vI s4), some (vI 1), some (vI s6), some (vI r14)]) dX3_findAll_124 (Nat.le_of_ble_eq_true rfl) rfl ?_
              refine wg_aload_n dX3_findAll_126 rfl (Nat.succ_ne_zero _) ?_
              refine wg_iload dX3_findAll_127 rfl ?_
              refine wg_putI dX3_findAll_129 (fl_X3_23 rfl) rfl rfl rfl ?_
              generalize hM : stI M18 87 3 r14 = M21
              replace h := h _ hM.symm
              replace hS : ShX M21 := by rw [← hM]; exact hS
              clear hM
              refine wg_aload_n dX3_findAll_132 rfl (Nat.succ_ne_zero _) ?_
              refine wg_iload dX3_findAll_133 rfl ?_
              refine wg_putI dX3_findAll_135 (fl_X3_20 rfl) rfl rfl rfl ?_
              generalize hM : stI M21 87 2 s6 = M22
              replace h := h _ hM.symm
              replace hS : ShX M22 := by rw [← hM]; exact hS
              clear hM
              obtain ⟨o, h⟩ := h
              refine wg_iinc (L' := [some (vR 87), none, none, some (vI s3), some (vI s4), some (vI 1), some (vI (s6 + 1)), some (vI r14)]) dX3_findAll_138 (Nat.le_of_ble_eq_true rfl) rfl rfl o ?_
              refine wg_goto dX3_findAll_141 rfl ?_
              refine wg_weak [true, false, false, true, true, true, true, false] rfl ?_
              exact h
        · replace h := h.2 c12
          refine wg_goto dX3_findAll_85 rfl ?_
          obtain ⟨o, h⟩ := h
          refine wg_iinc (L' := [some (vR 87), none, none, some (vI s3), some (vI s4), some (vI s5), some (vI (s6 + 1)), none]) dX3_findAll_138 (Nat.le_of_ble_eq_true rfl) rfl rfl o ?_
          refine wg_goto dX3_findAll_141 rfl ?_
          exact h
      · replace h := h.2 c7
        refine wg_goto dX3_findAll_57 rfl ?_
        obtain ⟨o, h⟩ := h
        refine wg_iinc (L' := [some (vR 87), none, none, some (vI s3), some (vI s4), some (vI s5), some (vI (s6 + 1)), none]) dX3_findAll_138 (Nat.le_of_ble_eq_true rfl) rfl rfl o ?_
        refine wg_goto dX3_findAll_141 rfl ?_
        exact h
set_option maxRecDepth 100000 in
theorem bX3_listLoose_0 {G : GG} {d : Nat} {M : MM} {Q : Option AV → MM → Prop} (p1 : Nat) (hk1 : kd p1 = 7) (p2 : Nat) (hk2 : kd p2 = 5) (hS : ShX M) (h :
∀ M1 : MM, M1 = stI M 87 11 0 →
(Wp G mX3_listLoose (d + 1) 0 0 7 [some (vR 87), some (vR p1), some (vR p2), some (vI 0), none] [] M1 0 0 Q)) :
  Wp G mX3_listLoose (d + 1) 0 0 0 [some (vR 87), some (vR p1), some (vR p2), none, none] [] M 0 0 Q := by
  refine wg_aload_n dX3_listLoose_0 rfl (Nat.succ_ne_zero _) ?_
  refine wg_iconst dX3_listLoose_1 qiconst_0 ?_
  refine wg_putI dX3_listLoose_2 (fl_X3_45 rfl) rfl rfl rfl ?_
  generalize hM : stI M 87 11 0 = M1
  replace h := h _ hM.symm
  replace hS : ShX M1 := by rw [← hM]; exact hS
  clear hM
  refine wg_iconst dX3_listLoose_5 qiconst_0 ?_
  refine wg_istore_n (L' := [some (vR 87), some (vR p1), some (vR p2), some (vI 0), none]) dX3_listLoose_6 (Nat.le_of_ble_eq_true rfl) rfl ?_
  exact h
set_option maxRecDepth 100000 in
theorem bX3_listLoose_7 {G : GG} {d : Nat} {M : MM} {Q : Option AV → MM → Prop} (p1 : Nat) (hk1 : kd p1 = 7) (p2 : Nat) (hk2 : kd p2 = 5) (s3 : Int) (hS : ShX M) (h :
((gI M p1 3) ≤ s3 →
(Wp G mX3_listLoose (d + 1) 0 0 76 [some (vR 87), none, none, some (vI 0), some (vI 4)] [] M 0 0 Q)) ∧
(¬ ((gI M p1 3) ≤ s3) →
((4 ≤ (gI M 87 11) →
(Wp G mX3_listLoose (d + 1) 0 0 76 [some (vR 87), none, none, some (vI 0), some (vI 4)] [] M 0 0 Q)) ∧
(¬ (4 ≤ (gI M 87 11)) →
(Ok G mX5_isBound d 0 0 [vR p2, vI s3] M (fun v M3 => ∃ r4 : Int, v = some (vI r4) ∧ ShX M3 ∧ 
((r4 ≠ 0 →
(R32 (s3 + 1) ∧
(Wp G mX3_listLoose (d + 1) 0 0 7 [some (vR 87), some (vR p1), some (vR p2), some (vI (s3 + 1)), none] [] M3 0 0 Q))) ∧
(r4 = 0 →
(((0 : Int) ≤ gI M3 87 11 ∧ (gI M3 87 11 : Int) < 4) ∧
(∀ M7 : MM, M7 = stI M3 89 (gI M3 87 11).toNat s3 →
(Ok G mX7_pullOfBeast d 0 0 [vR p1, vI s3] M7 (fun v M8 => ∃ r9 : Int, v = some (vI r9) ∧ ShX M8 ∧ 
(((0 : Int) ≤ gI M7 87 11 ∧ (gI M7 87 11 : Int) < 4) ∧
(∀ M11 : MM, M11 = stI M8 90 (gI M7 87 11).toNat r9 →
(R32 ((gI M11 87 11) + 1) ∧
(∀ M12 : MM, M12 = stI M11 87 11 ((gI M11 87 11) + 1) →
(R32 (s3 + 1) ∧
(Wp G mX3_listLoose (d + 1) 0 0 7 [some (vR 87), some (vR p1), some (vR p2), some (vI (s3 + 1)), none] [] M12 0 0 Q)))))))))))))))))) :
  Wp G mX3_listLoose (d + 1) 0 0 7 [some (vR 87), some (vR p1), some (vR p2), some (vI s3), none] [] M 0 0 Q := by
  refine wg_iload_n dX3_listLoose_7 rfl ?_
  refine wg_aload_n dX3_listLoose_8 rfl (kn7 hk1) ?_
  refine wg_getI dX3_listLoose_9 (fl_X3_92 rfl) rfl hk1 ?_
  refine wg_icmp_ge dX3_listLoose_12 rfl (fun c1 => ?_) (fun c1 => ?_)
  · replace h := h.1 c1
    refine wg_iconst dX3_listLoose_71 qiconst_0 ?_
    refine wg_istore_n (L' := [some (vR 87), some (vR p1), some (vR p2), some (vI 0), none]) dX3_listLoose_72 (Nat.le_of_ble_eq_true rfl) rfl ?_
    refine wg_iconst dX3_listLoose_73 qiconst_4 ?_
    refine wg_istore (L' := [some (vR 87), some (vR p1), some (vR p2), some (vI 0), some (vI 4)]) dX3_listLoose_74 (Nat.le_of_ble_eq_true rfl) rfl ?_
    refine wg_weak [true, false, false, true, true] rfl ?_
    exact h
  · replace h := h.2 c1
    refine wg_aload_n dX3_listLoose_15 rfl (Nat.succ_ne_zero _) ?_
    refine wg_getI dX3_listLoose_16 (fl_X3_45 rfl) rfl rfl ?_
    refine wg_iconst dX3_listLoose_19 qiconst_4 ?_
    refine wg_icmp_ge dX3_listLoose_20 rfl (fun c2 => ?_) (fun c2 => ?_)
    · replace h := h.1 c2
      refine wg_iconst dX3_listLoose_71 qiconst_0 ?_
      refine wg_istore_n (L' := [some (vR 87), some (vR p1), some (vR p2), some (vI 0), none]) dX3_listLoose_72 (Nat.le_of_ble_eq_true rfl) rfl ?_
      refine wg_iconst dX3_listLoose_73 qiconst_4 ?_
      refine wg_istore (L' := [some (vR 87), some (vR p1), some (vR p2), some (vI 0), some (vI 4)]) dX3_listLoose_74 (Nat.le_of_ble_eq_true rfl) rfl ?_
      refine wg_weak [true, false, false, true, true] rfl ?_
      exact h
    · replace h := h.2 c2
      refine wg_aload_n dX3_listLoose_23 rfl (kn5 hk2) ?_
      refine wg_iload_n dX3_listLoose_24 rfl ?_
      refine wg_callV (I' := mX5_isBound) (ci := 5) (np := 1) (d' := d) (q := p2) (as := [vI s3]) (st := []) dX3_listLoose_25 lk_X3_95 ci_X5_isBound rfl (Nat.le_of_ble_eq_true rfl) rfl rfl (Nat.le_of_ble_eq_true rfl) hk2 (Nat.le_refl _) ⟨Nat.le_refl _, Nat.le_refl _⟩ h (fun v M3 h => ?_)
      obtain ⟨r4, rfl, hS, h⟩ := h
      refine wg_if_ne dX3_listLoose_28 rfl (fun c5 => ?_) (fun c5 => ?_)
      · replace h := h.1 c5
        obtain ⟨o, h⟩ := h
        refine wg_iinc (L' := [some (vR 87), some (vR p1), some (vR p2), some (vI (s3 + 1)), none]) dX3_listLoose_65 (Nat.le_of_ble_eq_true rfl) rfl rfl o ?_
        refine wg_goto dX3_listLoose_68 rfl ?_
        exact h
      · replace h := h.2 c5
        refine wg_aload_n dX3_listLoose_31 rfl (Nat.succ_ne_zero _) ?_
        refine wg_getRe dX3_listLoose_32 (fl_X3_30 rfl) rfl rfl (x87 hS 6 (r := 89) (Nat.le_of_ble_eq_true rfl) (Nat.le_of_ble_eq_true rfl) rfl) ?_
        refine wg_aload_n dX3_listLoose_35 rfl (Nat.succ_ne_zero _) ?_
        refine wg_getI dX3_listLoose_36 (fl_X3_45 rfl) rfl rfl ?_
        refine wg_iload_n dX3_listLoose_39 rfl ?_
        obtain ⟨o6, h⟩ := h
        refine wg_iast dX3_listLoose_40 rfl o6.1 o6.2 ?_
        generalize hM : stI M3 89 (gI M3 87 11).toNat s3 = M7
        replace h := h _ hM.symm
        replace hS : ShX M7 := by rw [← hM]; exact hS
        clear hM
        refine wg_aload_n dX3_listLoose_41 rfl (Nat.succ_ne_zero _) ?_
        refine wg_getRe dX3_listLoose_42 (fl_X3_33 rfl) rfl rfl (x87 hS 7 (r := 90) (Nat.le_of_ble_eq_true rfl) (Nat.le_of_ble_eq_true rfl) rfl) ?_
        refine wg_aload_n dX3_listLoose_45 rfl (Nat.succ_ne_zero _) ?_
        refine wg_getI dX3_listLoose_46 (fl_X3_45 rfl) rfl rfl ?_
        refine wg_aload_n dX3_listLoose_49 rfl (kn7 hk1) ?_
        refine wg_iload_n dX3_listLoose_50 rfl ?_
        refine wg_callV (I' := mX7_pullOfBeast) (ci := 7) (np := 1) (d' := d) (q := p1) (as := [vI s3]) (st := [vI (gI M7 87 11), vR 90]) dX3_listLoose_51 lk_X3_99 ci_X7_pullOfBeast rfl (Nat.le_of_ble_eq_true rfl) rfl rfl (Nat.le_of_ble_eq_true rfl) hk1 (Nat.le_refl _) ⟨Nat.le_refl _, Nat.le_refl _⟩ h (fun v M8 h => ?_)
        obtain ⟨r9, rfl, hS, h⟩ := h
        obtain ⟨o10, h⟩ := h
        refine wg_iast dX3_listLoose_54 rfl o10.1 o10.2 ?_
        generalize hM : stI M8 90 (gI M7 87 11).toNat r9 = M11
        replace h := h _ hM.symm
        replace hS : ShX M11 := by rw [← hM]; exact hS
        clear hM
        refine wg_aload_n dX3_listLoose_55 rfl (Nat.succ_ne_zero _) ?_
        refine wg_dup dX3_listLoose_56 rfl ?_
        refine wg_getI dX3_listLoose_57 (fl_X3_45 rfl) rfl rfl ?_
        refine wg_iconst dX3_listLoose_60 qiconst_1 ?_
        obtain ⟨o, h⟩ := h
        refine wg_iadd dX3_listLoose_61 o ?_
        refine wg_putI dX3_listLoose_62 (fl_X3_45 rfl) rfl rfl rfl ?_
        generalize hM : stI M11 87 11 ((gI M11 87 11) + 1) = M12
        replace h := h _ hM.symm
        replace hS : ShX M12 := by rw [← hM]; exact hS
        clear hM
        obtain ⟨o, h⟩ := h
        refine wg_iinc (L' := [some (vR 87), some (vR p1), some (vR p2), some (vI (s3 + 1)), none]) dX3_listLoose_65 (Nat.le_of_ble_eq_true rfl) rfl rfl o ?_
        refine wg_goto dX3_listLoose_68 rfl ?_
        exact h
set_option maxRecDepth 100000 in
theorem bX3_listLoose_76 {G : GG} {d : Nat} {M : MM} {Q : Option AV → MM → Prop} (s3 : Int) (s4 : Int) (hS : ShX M) (h :
(s4 < 0 →
(Q none M)) ∧
(¬ (s4 < 0) →
(((gI M 87 11) ≤ s4 →
(R32 (s3 + 0) ∧
(((0 : Int) ≤ s4 ∧ (s4 : Int) < 5) ∧
(∀ M4 : MM, M4 = stI M 91 s4.toNat (s3 + 0) →
(R32 (s4 + (-1)) ∧
(Wp G mX3_listLoose (d + 1) 0 0 76 [some (vR 87), none, none, some (vI (s3 + 0)), some (vI (s4 + (-1)))] [] M4 0 0 Q)))))) ∧
(¬ ((gI M 87 11) ≤ s4) →
((4 ≤ s4 →
(R32 (s3 + 0) ∧
(((0 : Int) ≤ s4 ∧ (s4 : Int) < 5) ∧
(∀ M7 : MM, M7 = stI M 91 s4.toNat (s3 + 0) →
(R32 (s4 + (-1)) ∧
(Wp G mX3_listLoose (d + 1) 0 0 76 [some (vR 87), none, none, some (vI (s3 + 0)), some (vI (s4 + (-1)))] [] M7 0 0 Q)))))) ∧
(¬ (4 ≤ s4) →
(((0 : Int) ≤ s4 ∧ (s4 : Int) < 4) ∧
(R32 (s3 + (gI M 90 s4.toNat)) ∧
(((0 : Int) ≤ s4 ∧ (s4 : Int) < 5) ∧
(∀ M10 : MM, M10 = stI M 91 s4.toNat (s3 + (gI M 90 s4.toNat)) →
(R32 (s4 + (-1)) ∧
(Wp G mX3_listLoose (d + 1) 0 0 76 [some (vR 87), none, none, some (vI (s3 + (gI M 90 s4.toNat))), some (vI (s4 + (-1)))] [] M10 0 0 Q)))))))))))) :
  Wp G mX3_listLoose (d + 1) 0 0 76 [some (vR 87), none, none, some (vI s3), some (vI s4)] [] M 0 0 Q := by
  refine wg_iload dX3_listLoose_76 rfl ?_
  refine wg_if_lt dX3_listLoose_78 rfl (fun c1 => ?_) (fun c1 => ?_)
  · replace h := h.1 c1
    exact wp_vret rfl dX3_listLoose_124 ⟨Nat.le_refl _, Nat.le_refl _⟩ h
  · replace h := h.2 c1
    refine wg_iload_n dX3_listLoose_81 rfl ?_
    refine wg_iload dX3_listLoose_82 rfl ?_
    refine wg_aload_n dX3_listLoose_84 rfl (Nat.succ_ne_zero _) ?_
    refine wg_getI dX3_listLoose_85 (fl_X3_45 rfl) rfl rfl ?_
    refine wg_icmp_ge dX3_listLoose_88 rfl (fun c2 => ?_) (fun c2 => ?_)
    · replace h := h.1 c2
      refine wg_iconst dX3_listLoose_107 qiconst_0 ?_
      obtain ⟨o, h⟩ := h
      refine wg_iadd dX3_listLoose_108 o ?_
      refine wg_istore_n (L' := [some (vR 87), none, none, some (vI (s3 + 0)), some (vI s4)]) dX3_listLoose_109 (Nat.le_of_ble_eq_true rfl) rfl ?_
      refine wg_aload_n dX3_listLoose_110 rfl (Nat.succ_ne_zero _) ?_
      refine wg_getRe dX3_listLoose_111 (fl_X3_36 rfl) rfl rfl (x87 hS 8 (r := 91) (Nat.le_of_ble_eq_true rfl) (Nat.le_of_ble_eq_true rfl) rfl) ?_
      refine wg_iload dX3_listLoose_114 rfl ?_
      refine wg_iload_n dX3_listLoose_116 rfl ?_
      obtain ⟨o3, h⟩ := h
      refine wg_iast dX3_listLoose_117 rfl o3.1 o3.2 ?_
      generalize hM : stI M 91 s4.toNat (s3 + 0) = M4
      replace h := h _ hM.symm
      replace hS : ShX M4 := by rw [← hM]; exact hS
      clear hM
      obtain ⟨o, h⟩ := h
      refine wg_iinc (L' := [some (vR 87), none, none, some (vI (s3 + 0)), some (vI (s4 + (-1)))]) dX3_listLoose_118 (Nat.le_of_ble_eq_true rfl) rfl rfl o ?_
      refine wg_goto dX3_listLoose_121 rfl ?_
      exact h
    · replace h := h.2 c2
      refine wg_iload dX3_listLoose_91 rfl ?_
      refine wg_iconst dX3_listLoose_93 qiconst_4 ?_
      refine wg_icmp_ge dX3_listLoose_94 rfl (fun c5 => ?_) (fun c5 => ?_)
      · replace h := h.1 c5
        refine wg_iconst dX3_listLoose_107 qiconst_0 ?_
        obtain ⟨o, h⟩ := h
        refine wg_iadd dX3_listLoose_108 o ?_
        refine wg_istore_n (L' := [some (vR 87), none, none, some (vI (s3 + 0)), some (vI s4)]) dX3_listLoose_109 (Nat.le_of_ble_eq_true rfl) rfl ?_
        refine wg_aload_n dX3_listLoose_110 rfl (Nat.succ_ne_zero _) ?_
        refine wg_getRe dX3_listLoose_111 (fl_X3_36 rfl) rfl rfl (x87 hS 8 (r := 91) (Nat.le_of_ble_eq_true rfl) (Nat.le_of_ble_eq_true rfl) rfl) ?_
        refine wg_iload dX3_listLoose_114 rfl ?_
        refine wg_iload_n dX3_listLoose_116 rfl ?_
        obtain ⟨o6, h⟩ := h
        refine wg_iast dX3_listLoose_117 rfl o6.1 o6.2 ?_
        generalize hM : stI M 91 s4.toNat (s3 + 0) = M7
        replace h := h _ hM.symm
        replace hS : ShX M7 := by rw [← hM]; exact hS
        clear hM
        obtain ⟨o, h⟩ := h
        refine wg_iinc (L' := [some (vR 87), none, none, some (vI (s3 + 0)), some (vI (s4 + (-1)))]) dX3_listLoose_118 (Nat.le_of_ble_eq_true rfl) rfl rfl o ?_
        refine wg_goto dX3_listLoose_121 rfl ?_
        exact h
      · replace h := h.2 c5
        refine wg_aload_n dX3_listLoose_97 rfl (Nat.succ_ne_zero _) ?_
        refine wg_getRe dX3_listLoose_98 (fl_X3_33 rfl) rfl rfl (x87 hS 7 (r := 90) (Nat.le_of_ble_eq_true rfl) (Nat.le_of_ble_eq_true rfl) rfl) ?_
        refine wg_iload dX3_listLoose_101 rfl ?_
        obtain ⟨o8, h⟩ := h
        refine wg_iald dX3_listLoose_103 rfl o8.1 o8.2 ?_
        refine wg_goto dX3_listLoose_104 rfl ?_
        obtain ⟨o, h⟩ := h
        refine wg_iadd dX3_listLoose_108 o ?_
        refine wg_istore_n (L' := [some (vR 87), none, none, some (vI (s3 + (gI M 90 s4.toNat))), some (vI s4)]) dX3_listLoose_109 (Nat.le_of_ble_eq_true rfl) rfl ?_
        refine wg_aload_n dX3_listLoose_110 rfl (Nat.succ_ne_zero _) ?_
        refine wg_getRe dX3_listLoose_111 (fl_X3_36 rfl) rfl rfl (x87 hS 8 (r := 91) (Nat.le_of_ble_eq_true rfl) (Nat.le_of_ble_eq_true rfl) rfl) ?_
        refine wg_iload dX3_listLoose_114 rfl ?_
        refine wg_iload_n dX3_listLoose_116 rfl ?_
        obtain ⟨o9, h⟩ := h
        refine wg_iast dX3_listLoose_117 rfl o9.1 o9.2 ?_
        generalize hM : stI M 91 s4.toNat (s3 + (gI M 90 s4.toNat)) = M10
        replace h := h _ hM.symm
        replace hS : ShX M10 := by rw [← hM]; exact hS
        clear hM
        obtain ⟨o, h⟩ := h
        refine wg_iinc (L' := [some (vR 87), none, none, some (vI (s3 + (gI M 90 s4.toNat))), some (vI (s4 + (-1)))]) dX3_listLoose_118 (Nat.le_of_ble_eq_true rfl) rfl rfl o ?_
        refine wg_goto dX3_listLoose_121 rfl ?_
        exact h
set_option maxRecDepth 100000 in
theorem bX3_whoIsHeldBy_0 {G : GG} {d : Nat} {M : MM} {Q : Option AV → MM → Prop} (a1 : Int) (hS : ShX M) (h :
R32 ((gI M 87 11) - 1) ∧
(Wp G mX3_whoIsHeldBy (d + 1) 0 0 14 [some (vR 87), some (vI a1), some (vI (ishlv 1 (gI M 87 11))), some (vI ((gI M 87 11) - 1))] [] M 0 0 Q)) :
  Wp G mX3_whoIsHeldBy (d + 1) 0 0 0 [some (vR 87), some (vI a1), none, none] [] M 0 0 Q := by
  refine wg_iconst dX3_whoIsHeldBy_0 qiconst_1 ?_
  refine wg_aload_n dX3_whoIsHeldBy_1 rfl (Nat.succ_ne_zero _) ?_
  refine wg_getI dX3_whoIsHeldBy_2 (fl_X3_45 rfl) rfl rfl ?_
  refine wg_ishl dX3_whoIsHeldBy_5 ?_
  refine wg_istore_n (L' := [some (vR 87), some (vI a1), some (vI (ishlv 1 (gI M 87 11))), none]) dX3_whoIsHeldBy_6 (Nat.le_of_ble_eq_true rfl) rfl ?_
  refine wg_aload_n dX3_whoIsHeldBy_7 rfl (Nat.succ_ne_zero _) ?_
  refine wg_getI dX3_whoIsHeldBy_8 (fl_X3_45 rfl) rfl rfl ?_
  refine wg_iconst dX3_whoIsHeldBy_11 qiconst_1 ?_
  obtain ⟨o, h⟩ := h
  refine wg_isub dX3_whoIsHeldBy_12 o ?_
  refine wg_istore_n (L' := [some (vR 87), some (vI a1), some (vI (ishlv 1 (gI M 87 11))), some (vI ((gI M 87 11) - 1))]) dX3_whoIsHeldBy_13 (Nat.le_of_ble_eq_true rfl) rfl ?_
  exact h
set_option maxRecDepth 100000 in
theorem bX3_whoIsHeldBy_14 {G : GG} {d : Nat} {M : MM} {Q : Option AV → MM → Prop} (a1 : Int) (s2 : Int) (s3 : Int) (hS : ShX M) (h :
(s3 < 0 →
(Q (some (vI s2)) M)) ∧
(¬ (s3 < 0) →
(Ok G mX3_canHoldFrom d 0 0 [vR 87, vI s3, vI a1] M (fun v M2 => ∃ r3 : Int, v = some (vI r3) ∧ ShX M2 ∧ 
((r3 = 0 →
(R32 (s3 + (-1)) ∧
(Wp G mX3_whoIsHeldBy (d + 1) 0 0 14 [some (vR 87), some (vI a1), some (vI s2), some (vI (s3 + (-1)))] [] M2 0 0 Q))) ∧
(¬ (r3 = 0) →
(R32 (s3 + (-1)) ∧
(Wp G mX3_whoIsHeldBy (d + 1) 0 0 14 [some (vR 87), some (vI a1), some (vI (iorv s2 (ishlv 1 s3))), some (vI (s3 + (-1)))] [] M2 0 0 Q)))))))) :
  Wp G mX3_whoIsHeldBy (d + 1) 0 0 14 [some (vR 87), some (vI a1), some (vI s2), some (vI s3)] [] M 0 0 Q := by
  refine wg_iload_n dX3_whoIsHeldBy_14 rfl ?_
  refine wg_if_lt dX3_whoIsHeldBy_15 rfl (fun c1 => ?_) (fun c1 => ?_)
  · replace h := h.1 c1
    refine wg_iload_n dX3_whoIsHeldBy_39 rfl ?_
    exact wp_iret rfl dX3_whoIsHeldBy_40 ⟨Nat.le_refl _, Nat.le_refl _⟩ h
  · replace h := h.2 c1
    refine wg_aload_n dX3_whoIsHeldBy_18 rfl (Nat.succ_ne_zero _) ?_
    refine wg_iload_n dX3_whoIsHeldBy_19 rfl ?_
    refine wg_iload_n dX3_whoIsHeldBy_20 rfl ?_
    refine wg_callV (I' := mX3_canHoldFrom) (ci := 3) (np := 2) (d' := d) (q := 87) (as := [vI s3, vI a1]) (st := []) dX3_whoIsHeldBy_21 lk_X3_102 ci_X3_canHoldFrom rfl (Nat.le_of_ble_eq_true rfl) rfl rfl (Nat.le_of_ble_eq_true rfl) rfl (Nat.le_refl _) ⟨Nat.le_refl _, Nat.le_refl _⟩ h (fun v M2 h => ?_)
    obtain ⟨r3, rfl, hS, h⟩ := h
    refine wg_if_eq dX3_whoIsHeldBy_24 rfl (fun c4 => ?_) (fun c4 => ?_)
    · replace h := h.1 c4
      obtain ⟨o, h⟩ := h
      refine wg_iinc (L' := [some (vR 87), some (vI a1), some (vI s2), some (vI (s3 + (-1)))]) dX3_whoIsHeldBy_33 (Nat.le_of_ble_eq_true rfl) rfl rfl o ?_
      refine wg_goto dX3_whoIsHeldBy_36 rfl ?_
      exact h
    · replace h := h.2 c4
      refine wg_iload_n dX3_whoIsHeldBy_27 rfl ?_
      refine wg_iconst dX3_whoIsHeldBy_28 qiconst_1 ?_
      refine wg_iload_n dX3_whoIsHeldBy_29 rfl ?_
      refine wg_ishl dX3_whoIsHeldBy_30 ?_
      refine wg_ior dX3_whoIsHeldBy_31 ?_
      refine wg_istore_n (L' := [some (vR 87), some (vI a1), some (vI (iorv s2 (ishlv 1 s3))), some (vI s3)]) dX3_whoIsHeldBy_32 (Nat.le_of_ble_eq_true rfl) rfl ?_
      obtain ⟨o, h⟩ := h
      refine wg_iinc (L' := [some (vR 87), some (vI a1), some (vI (iorv s2 (ishlv 1 s3))), some (vI (s3 + (-1)))]) dX3_whoIsHeldBy_33 (Nat.le_of_ble_eq_true rfl) rfl rfl o ?_
      refine wg_goto dX3_whoIsHeldBy_36 rfl ?_
      exact h
set_option maxRecDepth 100000 in
theorem bX3_canHoldFrom_0 {G : GG} {d : Nat} {M : MM} {Q : Option AV → MM → Prop} (a1 : Int) (a2 : Int) (hS : ShX M) (h :
(a1 < 0 →
(Q (some (vI 0)) M)) ∧
(¬ (a1 < 0) →
((4 < a1 →
(Q (some (vI 0)) M)) ∧
(¬ (4 < a1) →
(Ok G mX6_strengthOf d 0 0 [vR 30, vI a2] M (fun v M3 => ∃ r4 : Int, v = some (vI r4) ∧ ShX M3 ∧ 
(((0 : Int) ≤ a1 ∧ (a1 : Int) < 5) ∧
(((gI M3 91 a1.toNat) ≤ r4 →
(Ok G mX3_smallerHoldsFrom d 0 0 [vR 87, vI a1, vI a2] M3 (fun v M7 => ∃ r8 : Int, v = some (vI r8) ∧ ShX M7 ∧ 
((r8 ≠ 0 →
(Q (some (vI 1)) M7)) ∧
(r8 = 0 →
(Ok G mX3_lowestRibbon d 0 0 [vR 87, vI a1, vI a2] M7 (fun v M10 => ∃ r11 : Int, v = some (vI r11) ∧ ShX M10 ∧ 
((r11 = 0 →
(Q (some (vI 0)) M10)) ∧
(¬ (r11 = 0) →
(Q (some (vI 1)) M10)))))))))) ∧
(¬ ((gI M3 91 a1.toNat) ≤ r4) →
(Q (some (vI 0)) M3)))))))))) :
  Wp G mX3_canHoldFrom (d + 1) 0 0 0 [some (vR 87), some (vI a1), some (vI a2)] [] M 0 0 Q := by
  refine wg_iload_n dX3_canHoldFrom_0 rfl ?_
  refine wg_if_lt dX3_canHoldFrom_1 rfl (fun c1 => ?_) (fun c1 => ?_)
  · replace h := h.1 c1
    refine wg_iconst dX3_canHoldFrom_26 qiconst_0 ?_
    exact wp_zret rfl dX3_canHoldFrom_27 ⟨Nat.le_refl _, Nat.le_refl _⟩ (Or.inl rfl) h
  · replace h := h.2 c1
    refine wg_iload_n dX3_canHoldFrom_4 rfl ?_
    refine wg_iconst dX3_canHoldFrom_5 qiconst_4 ?_
    refine wg_icmp_gt dX3_canHoldFrom_6 rfl (fun c2 => ?_) (fun c2 => ?_)
    · replace h := h.1 c2
      refine wg_iconst dX3_canHoldFrom_26 qiconst_0 ?_
      exact wp_zret rfl dX3_canHoldFrom_27 ⟨Nat.le_refl _, Nat.le_refl _⟩ (Or.inl rfl) h
    · replace h := h.2 c2
      refine wg_aload_n dX3_canHoldFrom_9 rfl (Nat.succ_ne_zero _) ?_
      refine wg_getRe dX3_canHoldFrom_10 (fl_X3_48 rfl) rfl rfl (x87 hS 4 (r := 30) (Nat.le_of_ble_eq_true rfl) (Nat.le_of_ble_eq_true rfl) rfl) ?_
      refine wg_iload_n dX3_canHoldFrom_13 rfl ?_
      refine wg_callV (I' := mX6_strengthOf) (ci := 6) (np := 1) (d' := d) (q := 30) (as := [vI a2]) (st := []) dX3_canHoldFrom_14 lk_X3_59 ci_X6_strengthOf rfl (Nat.le_of_ble_eq_true rfl) rfl rfl (Nat.le_of_ble_eq_true rfl) rfl (Nat.le_refl _) ⟨Nat.le_refl _, Nat.le_refl _⟩ h (fun v M3 h => ?_)
      obtain ⟨r4, rfl, hS, h⟩ := h
      refine wg_aload_n dX3_canHoldFrom_17 rfl (Nat.succ_ne_zero _) ?_
      refine wg_getRe dX3_canHoldFrom_18 (fl_X3_36 rfl) rfl rfl (x87 hS 8 (r := 91) (Nat.le_of_ble_eq_true rfl) (Nat.le_of_ble_eq_true rfl) rfl) ?_
      refine wg_iload_n dX3_canHoldFrom_21 rfl ?_
      obtain ⟨o5, h⟩ := h
      refine wg_iald dX3_canHoldFrom_22 rfl o5.1 o5.2 ?_
      refine wg_icmp_ge dX3_canHoldFrom_23 rfl (fun c6 => ?_) (fun c6 => ?_)
      · replace h := h.1 c6
        refine wg_aload_n dX3_canHoldFrom_28 rfl (Nat.succ_ne_zero _) ?_
        refine wg_iload_n dX3_canHoldFrom_29 rfl ?_
        refine wg_iload_n dX3_canHoldFrom_30 rfl ?_
        refine wg_callV (I' := mX3_smallerHoldsFrom) (ci := 3) (np := 2) (d' := d) (q := 87) (as := [vI a1, vI a2]) (st := []) dX3_canHoldFrom_31 lk_X3_106 ci_X3_smallerHoldsFrom rfl (Nat.le_of_ble_eq_true rfl) rfl rfl (Nat.le_of_ble_eq_true rfl) rfl (Nat.le_refl _) ⟨Nat.le_refl _, Nat.le_refl _⟩ h (fun v M7 h => ?_)
        obtain ⟨r8, rfl, hS, h⟩ := h
        refine wg_if_ne dX3_canHoldFrom_34 rfl (fun c9 => ?_) (fun c9 => ?_)
        · replace h := h.1 c9
          refine wg_iconst dX3_canHoldFrom_46 qiconst_1 ?_
          refine wg_goto dX3_canHoldFrom_47 rfl ?_
          exact wp_zret rfl dX3_canHoldFrom_51 ⟨Nat.le_refl _, Nat.le_refl _⟩ (Or.inr rfl) h
        · replace h := h.2 c9
          refine wg_aload_n dX3_canHoldFrom_37 rfl (Nat.succ_ne_zero _) ?_
          refine wg_iload_n dX3_canHoldFrom_38 rfl ?_
          refine wg_iload_n dX3_canHoldFrom_39 rfl ?_
          refine wg_callV (I' := mX3_lowestRibbon) (ci := 3) (np := 2) (d' := d) (q := 87) (as := [vI a1, vI a2]) (st := []) dX3_canHoldFrom_40 lk_X3_109 ci_X3_lowestRibbon rfl (Nat.le_of_ble_eq_true rfl) rfl rfl (Nat.le_of_ble_eq_true rfl) rfl (Nat.le_refl _) ⟨Nat.le_refl _, Nat.le_refl _⟩ h (fun v M10 h => ?_)
          obtain ⟨r11, rfl, hS, h⟩ := h
          refine wg_if_eq dX3_canHoldFrom_43 rfl (fun c12 => ?_) (fun c12 => ?_)
          · replace h := h.1 c12
            refine wg_iconst dX3_canHoldFrom_50 qiconst_0 ?_
            exact wp_zret rfl dX3_canHoldFrom_51 ⟨Nat.le_refl _, Nat.le_refl _⟩ (Or.inl rfl) h
          · replace h := h.2 c12
            refine wg_iconst dX3_canHoldFrom_46 qiconst_1 ?_
            refine wg_goto dX3_canHoldFrom_47 rfl ?_
            exact wp_zret rfl dX3_canHoldFrom_51 ⟨Nat.le_refl _, Nat.le_refl _⟩ (Or.inr rfl) h
      · replace h := h.2 c6
        refine wg_iconst dX3_canHoldFrom_26 qiconst_0 ?_
        exact wp_zret rfl dX3_canHoldFrom_27 ⟨Nat.le_refl _, Nat.le_refl _⟩ (Or.inl rfl) h
set_option maxRecDepth 100000 in
theorem bX3_smallerHoldsFrom_0 {G : GG} {d : Nat} {M : MM} {Q : Option AV → MM → Prop} (a1 : Int) (a2 : Int) (hS : ShX M) (h :
Wp G mX3_smallerHoldsFrom (d + 1) 0 0 2 [some (vR 87), some (vI a1), some (vI a2), some (vI a2)] [] M 0 0 Q) :
  Wp G mX3_smallerHoldsFrom (d + 1) 0 0 0 [some (vR 87), some (vI a1), some (vI a2), none] [] M 0 0 Q := by
  refine wg_iload_n dX3_smallerHoldsFrom_0 rfl ?_
  refine wg_istore_n (L' := [some (vR 87), some (vI a1), some (vI a2), some (vI a2)]) dX3_smallerHoldsFrom_1 (Nat.le_of_ble_eq_true rfl) rfl ?_
  exact h
set_option maxRecDepth 100000 in
theorem bX3_smallerHoldsFrom_2 {G : GG} {d : Nat} {M : MM} {Q : Option AV → MM → Prop} (a1 : Int) (a2 : Int) (s3 : Int) (hS : ShX M) (h :
(s3 ≤ 0 →
(Q (some (vI 0)) M)) ∧
(¬ (s3 ≤ 0) →
(R32 (-s3) ∧
(Ok G mX3_isHeldFrom d 0 0 [vR 87, vI a1, vI (ixorv a2 (iandv s3 (-s3)))] M (fun v M2 => ∃ r3 : Int, v = some (vI r3) ∧ ShX M2 ∧ 
((r3 = 0 →
(R32 (s3 - 1) ∧
(Wp G mX3_smallerHoldsFrom (d + 1) 0 0 2 [some (vR 87), some (vI a1), some (vI a2), some (vI (iandv s3 (s3 - 1)))] [] M2 0 0 Q))) ∧
(¬ (r3 = 0) →
(Q (some (vI 1)) M2)))))))) :
  Wp G mX3_smallerHoldsFrom (d + 1) 0 0 2 [some (vR 87), some (vI a1), some (vI a2), some (vI s3)] [] M 0 0 Q := by
  refine wg_iload_n dX3_smallerHoldsFrom_2 rfl ?_
  refine wg_if_le dX3_smallerHoldsFrom_3 rfl (fun c1 => ?_) (fun c1 => ?_)
  · replace h := h.1 c1
    refine wg_iconst dX3_smallerHoldsFrom_31 qiconst_0 ?_
    exact wp_zret rfl dX3_smallerHoldsFrom_32 ⟨Nat.le_refl _, Nat.le_refl _⟩ (Or.inl rfl) h
  · replace h := h.2 c1
    refine wg_aload_n dX3_smallerHoldsFrom_6 rfl (Nat.succ_ne_zero _) ?_
    refine wg_iload_n dX3_smallerHoldsFrom_7 rfl ?_
    refine wg_iload_n dX3_smallerHoldsFrom_8 rfl ?_
    refine wg_iload_n dX3_smallerHoldsFrom_9 rfl ?_
    refine wg_iload_n dX3_smallerHoldsFrom_10 rfl ?_
    obtain ⟨o, h⟩ := h
    refine wg_ineg dX3_smallerHoldsFrom_11 o ?_
    refine wg_iand dX3_smallerHoldsFrom_12 ?_
    refine wg_ixor dX3_smallerHoldsFrom_13 ?_
    refine wg_callV (I' := mX3_isHeldFrom) (ci := 3) (np := 2) (d' := d) (q := 87) (as := [vI a1, vI (ixorv a2 (iandv s3 (-s3)))]) (st := []) dX3_smallerHoldsFrom_14 lk_X3_112 ci_X3_isHeldFrom rfl (Nat.le_of_ble_eq_true rfl) rfl rfl (Nat.le_of_ble_eq_true rfl) rfl (Nat.le_refl _) ⟨Nat.le_refl _, Nat.le_refl _⟩ h (fun v M2 h => ?_)
    obtain ⟨r3, rfl, hS, h⟩ := h
    refine wg_if_eq dX3_smallerHoldsFrom_17 rfl (fun c4 => ?_) (fun c4 => ?_)
    · replace h := h.1 c4
      refine wg_iload_n dX3_smallerHoldsFrom_22 rfl ?_
      refine wg_iload_n dX3_smallerHoldsFrom_23 rfl ?_
      refine wg_iconst dX3_smallerHoldsFrom_24 qiconst_1 ?_
      obtain ⟨o, h⟩ := h
      refine wg_isub dX3_smallerHoldsFrom_25 o ?_
      refine wg_iand dX3_smallerHoldsFrom_26 ?_
      refine wg_istore_n (L' := [some (vR 87), some (vI a1), some (vI a2), some (vI (iandv s3 (s3 - 1)))]) dX3_smallerHoldsFrom_27 (Nat.le_of_ble_eq_true rfl) rfl ?_
      refine wg_goto dX3_smallerHoldsFrom_28 rfl ?_
      exact h
    · replace h := h.2 c4
      refine wg_iconst dX3_smallerHoldsFrom_20 qiconst_1 ?_
      exact wp_zret rfl dX3_smallerHoldsFrom_21 ⟨Nat.le_refl _, Nat.le_refl _⟩ (Or.inr rfl) h
set_option maxRecDepth 100000 in
theorem bX3_isHeldFrom_0 {G : GG} {d : Nat} {M : MM} {Q : Option AV → MM → Prop} (a1 : Int) (a2 : Int) (hS : ShX M) (h :
(a2 < 0 →
(Q (some (vI 0)) M)) ∧
(¬ (a2 < 0) →
((1024 ≤ a2 →
(Q (some (vI 0)) M)) ∧
(¬ (1024 ≤ a2) →
(((0 : Int) ≤ a2 ∧ (a2 : Int) < 1024) ∧
(((iandv (ishrv (gI M 92 a2.toNat) a1) 1) ≠ 1 →
(Q (some (vI 0)) M)) ∧
((iandv (ishrv (gI M 92 a2.toNat) a1) 1) = 1 →
(Q (some (vI 1)) M)))))))) :
  Wp G mX3_isHeldFrom d 0 0 0 [some (vR 87), some (vI a1), some (vI a2)] [] M 0 0 Q := by
  refine wg_iload_n dX3_isHeldFrom_0 rfl ?_
  refine wg_if_lt dX3_isHeldFrom_1 rfl (fun c1 => ?_) (fun c1 => ?_)
  · replace h := h.1 c1
    refine wg_iconst dX3_isHeldFrom_29 qiconst_0 ?_
    exact wp_zret rfl dX3_isHeldFrom_30 ⟨Nat.le_refl _, Nat.le_refl _⟩ (Or.inl rfl) h
  · replace h := h.2 c1
    refine wg_iload_n dX3_isHeldFrom_4 rfl ?_
    refine wg_sipush dX3_isHeldFrom_5 qsipush_1024 ?_
    refine wg_icmp_ge dX3_isHeldFrom_8 rfl (fun c2 => ?_) (fun c2 => ?_)
    · replace h := h.1 c2
      refine wg_iconst dX3_isHeldFrom_29 qiconst_0 ?_
      exact wp_zret rfl dX3_isHeldFrom_30 ⟨Nat.le_refl _, Nat.le_refl _⟩ (Or.inl rfl) h
    · replace h := h.2 c2
      refine wg_aload_n dX3_isHeldFrom_11 rfl (Nat.succ_ne_zero _) ?_
      refine wg_getRe dX3_isHeldFrom_12 (fl_X3_39 rfl) rfl rfl (x87 hS 9 (r := 92) (Nat.le_of_ble_eq_true rfl) (Nat.le_of_ble_eq_true rfl) rfl) ?_
      refine wg_iload_n dX3_isHeldFrom_15 rfl ?_
      obtain ⟨o3, h⟩ := h
      refine wg_iald dX3_isHeldFrom_16 rfl o3.1 o3.2 ?_
      refine wg_iload_n dX3_isHeldFrom_17 rfl ?_
      refine wg_ishr dX3_isHeldFrom_18 ?_
      refine wg_iconst dX3_isHeldFrom_19 qiconst_1 ?_
      refine wg_iand dX3_isHeldFrom_20 ?_
      refine wg_iconst dX3_isHeldFrom_21 qiconst_1 ?_
      refine wg_icmp_ne dX3_isHeldFrom_22 rfl (fun c4 => ?_) (fun c4 => ?_)
      · replace h := h.1 c4
        refine wg_iconst dX3_isHeldFrom_29 qiconst_0 ?_
        exact wp_zret rfl dX3_isHeldFrom_30 ⟨Nat.le_refl _, Nat.le_refl _⟩ (Or.inl rfl) h
      · replace h := h.2 c4
        refine wg_iconst dX3_isHeldFrom_25 qiconst_1 ?_
        refine wg_goto dX3_isHeldFrom_26 rfl ?_
        exact wp_zret rfl dX3_isHeldFrom_30 ⟨Nat.le_refl _, Nat.le_refl _⟩ (Or.inr rfl) h
set_option maxRecDepth 100000 in
theorem bX3_lowestRibbon_0 {G : GG} {d : Nat} {M : MM} {Q : Option AV → MM → Prop} (a1 : Int) (a2 : Int) (hS : ShX M) (h :
(a1 < 0 →
(Wp G mX3_lowestRibbon (d + 1) 0 0 26 [some (vR 87), some (vI a1), some (vI a2), some (vI 0), some (vI 0), some (vI a2)] [] M 0 0 Q)) ∧
(¬ (a1 < 0) →
((4 ≤ a1 →
(Wp G mX3_lowestRibbon (d + 1) 0 0 26 [some (vR 87), some (vI a1), some (vI a2), some (vI 0), some (vI 0), some (vI a2)] [] M 0 0 Q)) ∧
(¬ (4 ≤ a1) →
(((0 : Int) ≤ a1 ∧ (a1 : Int) < 4) ∧
(Wp G mX3_lowestRibbon (d + 1) 0 0 26 [some (vR 87), some (vI a1), some (vI a2), some (vI (gI M 90 a1.toNat)), some (vI 0), some (vI a2)] [] M 0 0 Q)))))) :
  Wp G mX3_lowestRibbon (d + 1) 0 0 0 [some (vR 87), some (vI a1), some (vI a2), none, none, none] [] M 0 0 Q := by
  refine wg_iload_n dX3_lowestRibbon_0 rfl ?_
  refine wg_if_lt dX3_lowestRibbon_1 rfl (fun c1 => ?_) (fun c1 => ?_)
  · replace h := h.1 c1
    refine wg_iconst dX3_lowestRibbon_18 qiconst_0 ?_
    refine wg_istore_n (L' := [some (vR 87), some (vI a1), some (vI a2), some (vI 0), none, none]) dX3_lowestRibbon_19 (Nat.le_of_ble_eq_true rfl) rfl ?_
    refine wg_iconst dX3_lowestRibbon_20 qiconst_0 ?_
    refine wg_istore (L' := [some (vR 87), some (vI a1), some (vI a2), some (vI 0), some (vI 0), none]) dX3_lowestRibbon_21 (Nat.le_of_ble_eq_true rfl) rfl ?_
    refine wg_iload_n dX3_lowestRibbon_23 rfl ?_
    refine wg_istore (L' := [some (vR 87), some (vI a1), some (vI a2), some (vI 0), some (vI 0), some (vI a2)]) dX3_lowestRibbon_24 (Nat.le_of_ble_eq_true rfl) rfl ?_
    exact h
  · replace h := h.2 c1
    refine wg_iload_n dX3_lowestRibbon_4 rfl ?_
    refine wg_iconst dX3_lowestRibbon_5 qiconst_4 ?_
    refine wg_icmp_ge dX3_lowestRibbon_6 rfl (fun c2 => ?_) (fun c2 => ?_)
    · replace h := h.1 c2
      refine wg_iconst dX3_lowestRibbon_18 qiconst_0 ?_
      refine wg_istore_n (L' := [some (vR 87), some (vI a1), some (vI a2), some (vI 0), none, none]) dX3_lowestRibbon_19 (Nat.le_of_ble_eq_true rfl) rfl ?_
      refine wg_iconst dX3_lowestRibbon_20 qiconst_0 ?_
      refine wg_istore (L' := [some (vR 87), some (vI a1), some (vI a2), some (vI 0), some (vI 0), none]) dX3_lowestRibbon_21 (Nat.le_of_ble_eq_true rfl) rfl ?_
      refine wg_iload_n dX3_lowestRibbon_23 rfl ?_
      refine wg_istore (L' := [some (vR 87), some (vI a1), some (vI a2), some (vI 0), some (vI 0), some (vI a2)]) dX3_lowestRibbon_24 (Nat.le_of_ble_eq_true rfl) rfl ?_
      exact h
    · replace h := h.2 c2
      refine wg_aload_n dX3_lowestRibbon_9 rfl (Nat.succ_ne_zero _) ?_
      refine wg_getRe dX3_lowestRibbon_10 (fl_X3_33 rfl) rfl rfl (x87 hS 7 (r := 90) (Nat.le_of_ble_eq_true rfl) (Nat.le_of_ble_eq_true rfl) rfl) ?_
      refine wg_iload_n dX3_lowestRibbon_13 rfl ?_
      obtain ⟨o3, h⟩ := h
      refine wg_iald dX3_lowestRibbon_14 rfl o3.1 o3.2 ?_
      refine wg_goto dX3_lowestRibbon_15 rfl ?_
      refine wg_istore_n (L' := [some (vR 87), some (vI a1), some (vI a2), some (vI (gI M 90 a1.toNat)), none, none]) dX3_lowestRibbon_19 (Nat.le_of_ble_eq_true rfl) rfl ?_
      refine wg_iconst dX3_lowestRibbon_20 qiconst_0 ?_
      refine wg_istore (L' := [some (vR 87), some (vI a1), some (vI a2), some (vI (gI M 90 a1.toNat)), some (vI 0), none]) dX3_lowestRibbon_21 (Nat.le_of_ble_eq_true rfl) rfl ?_
      refine wg_iload_n dX3_lowestRibbon_23 rfl ?_
      refine wg_istore (L' := [some (vR 87), some (vI a1), some (vI a2), some (vI (gI M 90 a1.toNat)), some (vI 0), some (vI a2)]) dX3_lowestRibbon_24 (Nat.le_of_ble_eq_true rfl) rfl ?_
      exact h
set_option maxRecDepth 100000 in
theorem bX3_lowestRibbon_26 {G : GG} {d : Nat} {M : MM} {Q : Option AV → MM → Prop} (a1 : Int) (a2 : Int) (s3 : Int) (s4 : Int) (s5 : Int) (hS : ShX M) (h :
(s5 ≤ 0 →
(Q (some (vI s4)) M)) ∧
(¬ (s5 ≤ 0) →
(Ok G mX6_strengthOf d 0 0 [vR 30, vI s5] M (fun v M2 => ∃ r3 : Int, v = some (vI r3) ∧ ShX M2 ∧ 
((r3 < s3 →
(R32 (s5 - 1) ∧
(Wp G mX3_lowestRibbon (d + 1) 0 0 26 [some (vR 87), some (vI a1), some (vI a2), some (vI s3), some (vI s4), some (vI (iandv (s5 - 1) a2))] [] M2 0 0 Q))) ∧
(¬ (r3 < s3) →
(R32 (a1 + 1) ∧
(Ok G mX3_isHeldFrom d 0 0 [vR 87, vI (a1 + 1), vI (ixorv a2 s5)] M2 (fun v M5 => ∃ r6 : Int, v = some (vI r6) ∧ ShX M5 ∧ 
((r6 = 0 →
(R32 (s5 - 1) ∧
(Wp G mX3_lowestRibbon (d + 1) 0 0 26 [some (vR 87), some (vI a1), some (vI a2), some (vI s3), some (vI s4), some (vI (iandv (s5 - 1) a2))] [] M5 0 0 Q))) ∧
(¬ (r6 = 0) →
(R32 (s5 - 1) ∧
(Wp G mX3_lowestRibbon (d + 1) 0 0 26 [some (vR 87), some (vI a1), some (vI a2), some (vI s3), some (vI s5), some (vI (iandv (s5 - 1) a2))] [] M5 0 0 Q))))))))))))) :
  Wp G mX3_lowestRibbon (d + 1) 0 0 26 [some (vR 87), some (vI a1), some (vI a2), some (vI s3), some (vI s4), some (vI s5)] [] M 0 0 Q := by
  refine wg_iload dX3_lowestRibbon_26 rfl ?_
  refine wg_if_le dX3_lowestRibbon_28 rfl (fun c1 => ?_) (fun c1 => ?_)
  · replace h := h.1 c1
    refine wg_iload dX3_lowestRibbon_73 rfl ?_
    exact wp_iret rfl dX3_lowestRibbon_75 ⟨Nat.le_refl _, Nat.le_refl _⟩ h
  · replace h := h.2 c1
    refine wg_aload_n dX3_lowestRibbon_31 rfl (Nat.succ_ne_zero _) ?_
    refine wg_getRe dX3_lowestRibbon_32 (fl_X3_48 rfl) rfl rfl (x87 hS 4 (r := 30) (Nat.le_of_ble_eq_true rfl) (Nat.le_of_ble_eq_true rfl) rfl) ?_
    refine wg_iload dX3_lowestRibbon_35 rfl ?_
    refine wg_callV (I' := mX6_strengthOf) (ci := 6) (np := 1) (d' := d) (q := 30) (as := [vI s5]) (st := []) dX3_lowestRibbon_37 lk_X3_59 ci_X6_strengthOf rfl (Nat.le_of_ble_eq_true rfl) rfl rfl (Nat.le_of_ble_eq_true rfl) rfl (Nat.le_refl _) ⟨Nat.le_refl _, Nat.le_refl _⟩ h (fun v M2 h => ?_)
    obtain ⟨r3, rfl, hS, h⟩ := h
    refine wg_iload_n dX3_lowestRibbon_40 rfl ?_
    refine wg_icmp_lt dX3_lowestRibbon_41 rfl (fun c4 => ?_) (fun c4 => ?_)
    · replace h := h.1 c4
      refine wg_iload dX3_lowestRibbon_62 rfl ?_
      refine wg_iconst dX3_lowestRibbon_64 qiconst_1 ?_
      obtain ⟨o, h⟩ := h
      refine wg_isub dX3_lowestRibbon_65 o ?_
      refine wg_iload_n dX3_lowestRibbon_66 rfl ?_
      refine wg_iand dX3_lowestRibbon_67 ?_
      refine wg_istore (L' := [some (vR 87), some (vI a1), some (vI a2), some (vI s3), some (vI s4), some (vI (iandv (s5 - 1) a2))]) dX3_lowestRibbon_68 (Nat.le_of_ble_eq_true rfl) rfl ?_
      refine wg_goto dX3_lowestRibbon_70 rfl ?_
      exact h
    · replace h := h.2 c4
      refine wg_aload_n dX3_lowestRibbon_44 rfl (Nat.succ_ne_zero _) ?_
      refine wg_iload_n dX3_lowestRibbon_45 rfl ?_
      refine wg_iconst dX3_lowestRibbon_46 qiconst_1 ?_
      obtain ⟨o, h⟩ := h
      refine wg_iadd dX3_lowestRibbon_47 o ?_
      refine wg_iload_n dX3_lowestRibbon_48 rfl ?_
      refine wg_iload dX3_lowestRibbon_49 rfl ?_
      refine wg_ixor dX3_lowestRibbon_51 ?_
      refine wg_callV (I' := mX3_isHeldFrom) (ci := 3) (np := 2) (d' := d) (q := 87) (as := [vI (a1 + 1), vI (ixorv a2 s5)]) (st := []) dX3_lowestRibbon_52 lk_X3_112 ci_X3_isHeldFrom rfl (Nat.le_of_ble_eq_true rfl) rfl rfl (Nat.le_of_ble_eq_true rfl) rfl (Nat.le_refl _) ⟨Nat.le_refl _, Nat.le_refl _⟩ h (fun v M5 h => ?_)
      obtain ⟨r6, rfl, hS, h⟩ := h
      refine wg_if_eq dX3_lowestRibbon_55 rfl (fun c7 => ?_) (fun c7 => ?_)
      · replace h := h.1 c7
        refine wg_iload dX3_lowestRibbon_62 rfl ?_
        refine wg_iconst dX3_lowestRibbon_64 qiconst_1 ?_
        obtain ⟨o, h⟩ := h
        refine wg_isub dX3_lowestRibbon_65 o ?_
        refine wg_iload_n dX3_lowestRibbon_66 rfl ?_
        refine wg_iand dX3_lowestRibbon_67 ?_
        refine wg_istore (L' := [some (vR 87), some (vI a1), some (vI a2), some (vI s3), some (vI s4), some (vI (iandv (s5 - 1) a2))]) dX3_lowestRibbon_68 (Nat.le_of_ble_eq_true rfl) rfl ?_
        refine wg_goto dX3_lowestRibbon_70 rfl ?_
        exact h
      · replace h := h.2 c7
        refine wg_iload dX3_lowestRibbon_58 rfl ?_
        refine wg_istore (L' := [some (vR 87), some (vI a1), some (vI a2), some (vI s3), some (vI s5), some (vI s5)]) dX3_lowestRibbon_60 (Nat.le_of_ble_eq_true rfl) rfl ?_
        refine wg_iload dX3_lowestRibbon_62 rfl ?_
        refine wg_iconst dX3_lowestRibbon_64 qiconst_1 ?_
        obtain ⟨o, h⟩ := h
        refine wg_isub dX3_lowestRibbon_65 o ?_
        refine wg_iload_n dX3_lowestRibbon_66 rfl ?_
        refine wg_iand dX3_lowestRibbon_67 ?_
        refine wg_istore (L' := [some (vR 87), some (vI a1), some (vI a2), some (vI s3), some (vI s5), some (vI (iandv (s5 - 1) a2))]) dX3_lowestRibbon_68 (Nat.le_of_ble_eq_true rfl) rfl ?_
        refine wg_goto dX3_lowestRibbon_70 rfl ?_
        exact h
set_option maxRecDepth 100000 in
theorem bX3_shareOut_0 {G : GG} {d : Nat} {M : MM} {Q : Option AV → MM → Prop} (a1 : Int) (hS : ShX M) (h :
Wp G mX3_shareOut (d + 1) 0 0 2 [some (vR 87), some (vI a1), some (vI 0), none, none, none] [] M 0 0 Q) :
  Wp G mX3_shareOut (d + 1) 0 0 0 [some (vR 87), some (vI a1), none, none, none, none] [] M 0 0 Q := by
  refine wg_iconst dX3_shareOut_0 qiconst_0 ?_
  refine wg_istore_n (L' := [some (vR 87), some (vI a1), some (vI 0), none, none, none]) dX3_shareOut_1 (Nat.le_of_ble_eq_true rfl) rfl ?_
  exact h
set_option maxRecDepth 100000 in
theorem bX3_shareOut_2 {G : GG} {d : Nat} {M : MM} {Q : Option AV → MM → Prop} (a1 : Int) (s2 : Int) (hS : ShX M) (h :
(4 ≤ s2 →
(Wp G mX3_shareOut (d + 1) 0 0 24 [some (vR 87), none, some (vI a1), some (vI 0), none, none] [] M 0 0 Q)) ∧
(¬ (4 ≤ s2) →
(((0 : Int) ≤ s2 ∧ (s2 : Int) < 4) ∧
(∀ M3 : MM, M3 = stI M 88 s2.toNat 0 →
(R32 (s2 + 1) ∧
(Wp G mX3_shareOut (d + 1) 0 0 2 [some (vR 87), some (vI a1), some (vI (s2 + 1)), none, none, none] [] M3 0 0 Q)))))) :
  Wp G mX3_shareOut (d + 1) 0 0 2 [some (vR 87), some (vI a1), some (vI s2), none, none, none] [] M 0 0 Q := by
  refine wg_iload_n dX3_shareOut_2 rfl ?_
  refine wg_iconst dX3_shareOut_3 qiconst_4 ?_
  refine wg_icmp_ge dX3_shareOut_4 rfl (fun c1 => ?_) (fun c1 => ?_)
  · replace h := h.1 c1
    refine wg_iload_n dX3_shareOut_20 rfl ?_
    refine wg_istore_n (L' := [some (vR 87), some (vI a1), some (vI a1), none, none, none]) dX3_shareOut_21 (Nat.le_of_ble_eq_true rfl) rfl ?_
    refine wg_iconst dX3_shareOut_22 qiconst_0 ?_
    refine wg_istore_n (L' := [some (vR 87), some (vI a1), some (vI a1), some (vI 0), none, none]) dX3_shareOut_23 (Nat.le_of_ble_eq_true rfl) rfl ?_
    refine wg_weak [true, false, true, true, false, false] rfl ?_
    exact h
  · replace h := h.2 c1
    refine wg_aload_n dX3_shareOut_7 rfl (Nat.succ_ne_zero _) ?_
    refine wg_getRe dX3_shareOut_8 (fl_X3_26 rfl) rfl rfl (x87 hS 5 (r := 88) (Nat.le_of_ble_eq_true rfl) (Nat.le_of_ble_eq_true rfl) rfl) ?_
    refine wg_iload_n dX3_shareOut_11 rfl ?_
    refine wg_iconst dX3_shareOut_12 qiconst_0 ?_
    obtain ⟨o2, h⟩ := h
    refine wg_iast dX3_shareOut_13 rfl o2.1 o2.2 ?_
    generalize hM : stI M 88 s2.toNat 0 = M3
    replace h := h _ hM.symm
    replace hS : ShX M3 := by rw [← hM]; exact hS
    clear hM
    obtain ⟨o, h⟩ := h
    refine wg_iinc (L' := [some (vR 87), some (vI a1), some (vI (s2 + 1)), none, none, none]) dX3_shareOut_14 (Nat.le_of_ble_eq_true rfl) rfl rfl o ?_
    refine wg_goto dX3_shareOut_17 rfl ?_
    exact h
set_option maxRecDepth 100000 in
theorem bX3_shareOut_24 {G : GG} {d : Nat} {M : MM} {Q : Option AV → MM → Prop} (s2 : Int) (s3 : Int) (hS : ShX M) (h :
((gI M 87 11) ≤ s3 →
(Q none M)) ∧
(¬ ((gI M 87 11) ≤ s3) →
((4 ≤ s3 →
(Q none M)) ∧
(¬ (4 ≤ s3) →
(((0 : Int) ≤ s3 ∧ (s3 : Int) < 4) ∧
(Ok G mX3_lowestRibbon d 0 0 [vR 87, vI s3, vI s2] M (fun v M4 => ∃ r5 : Int, v = some (vI r5) ∧ ShX M4 ∧ 
(((gI M 89 s3.toNat) < 0 →
(R32 (s3 + 1) ∧
(Wp G mX3_shareOut (d + 1) 0 0 24 [some (vR 87), none, some (vI (ixorv s2 r5)), some (vI (s3 + 1)), none, none] [] M4 0 0 Q))) ∧
(¬ ((gI M 89 s3.toNat) < 0) →
((4 ≤ (gI M 89 s3.toNat) →
(R32 (s3 + 1) ∧
(Wp G mX3_shareOut (d + 1) 0 0 24 [some (vR 87), none, some (vI (ixorv s2 r5)), some (vI (s3 + 1)), none, none] [] M4 0 0 Q))) ∧
(¬ (4 ≤ (gI M 89 s3.toNat)) →
(((0 : Int) ≤ gI M 89 s3.toNat ∧ (gI M 89 s3.toNat : Int) < 4) ∧
(∀ M9 : MM, M9 = stI M4 88 (gI M 89 s3.toNat).toNat r5 →
(R32 (s3 + 1) ∧
(Wp G mX3_shareOut (d + 1) 0 0 24 [some (vR 87), none, some (vI (ixorv s2 r5)), some (vI (s3 + 1)), none, none] [] M9 0 0 Q))))))))))))))) :
  Wp G mX3_shareOut (d + 1) 0 0 24 [some (vR 87), none, some (vI s2), some (vI s3), none, none] [] M 0 0 Q := by
  refine wg_iload_n dX3_shareOut_24 rfl ?_
  refine wg_aload_n dX3_shareOut_25 rfl (Nat.succ_ne_zero _) ?_
  refine wg_getI dX3_shareOut_26 (fl_X3_45 rfl) rfl rfl ?_
  refine wg_icmp_ge dX3_shareOut_29 rfl (fun c1 => ?_) (fun c1 => ?_)
  · replace h := h.1 c1
    exact wp_vret rfl dX3_shareOut_84 ⟨Nat.le_refl _, Nat.le_refl _⟩ h
  · replace h := h.2 c1
    refine wg_iload_n dX3_shareOut_32 rfl ?_
    refine wg_iconst dX3_shareOut_33 qiconst_4 ?_
    refine wg_icmp_ge dX3_shareOut_34 rfl (fun c2 => ?_) (fun c2 => ?_)
    · replace h := h.1 c2
      exact wp_vret rfl dX3_shareOut_84 ⟨Nat.le_refl _, Nat.le_refl _⟩ h
    · replace h := h.2 c2
      refine wg_aload_n dX3_shareOut_37 rfl (Nat.succ_ne_zero _) ?_
      refine wg_getRe dX3_shareOut_38 (fl_X3_30 rfl) rfl rfl (x87 hS 6 (r := 89) (Nat.le_of_ble_eq_true rfl) (Nat.le_of_ble_eq_true rfl) rfl) ?_
      refine wg_iload_n dX3_shareOut_41 rfl ?_
      obtain ⟨o3, h⟩ := h
      refine wg_iald dX3_shareOut_42 rfl o3.1 o3.2 ?_
      refine wg_istore (L' := [some (vR 87), none, some (vI s2), some (vI s3), some (vI (gI M 89 s3.toNat)), none]) dX3_shareOut_43 (Nat.le_of_ble_eq_true rfl) rfl ?_
      refine wg_aload_n dX3_shareOut_45 rfl (Nat.succ_ne_zero _) ?_
      refine wg_iload_n dX3_shareOut_46 rfl ?_
      refine wg_iload_n dX3_shareOut_47 rfl ?_
      refine wg_callV (I' := mX3_lowestRibbon) (ci := 3) (np := 2) (d' := d) (q := 87) (as := [vI s3, vI s2]) (st := []) dX3_shareOut_48 lk_X3_109 ci_X3_lowestRibbon rfl (Nat.le_of_ble_eq_true rfl) rfl rfl (Nat.le_of_ble_eq_true rfl) rfl (Nat.le_refl _) ⟨Nat.le_refl _, Nat.le_refl _⟩ h (fun v M4 h => ?_)
      obtain ⟨r5, rfl, hS, h⟩ := h
      refine wg_istore (L' := [some (vR 87), none, some (vI s2), some (vI s3), some (vI (gI M 89 s3.toNat)), some (vI r5)]) dX3_shareOut_51 (Nat.le_of_ble_eq_true rfl) rfl ?_
      refine wg_iload dX3_shareOut_53 rfl ?_
      refine wg_if_lt dX3_shareOut_55 rfl (fun c6 => ?_) (fun c6 => ?_)
      · replace h := h.1 c6
        refine wg_iload_n dX3_shareOut_73 rfl ?_
        refine wg_iload dX3_shareOut_74 rfl ?_
        refine wg_ixor dX3_shareOut_76 ?_
        refine wg_istore_n (L' := [some (vR 87), none, some (vI (ixorv s2 r5)), some (vI s3), some (vI (gI M 89 s3.toNat)), some (vI r5)]) dX3_shareOut_77 (Nat.le_of_ble_eq_true rfl) rfl ?_
        obtain ⟨o, h⟩ := h
        refine wg_iinc (L' := [some (vR 87), none, some (vI (ixorv s2 r5)), some (vI (s3 + 1)), some (vI (gI M 89 s3.toNat)), some (vI r5)]) dX3_shareOut_78 (Nat.le_of_ble_eq_true rfl) rfl rfl o ?_
        refine wg_goto dX3_shareOut_81 rfl ?_
        refine wg_weak [true, false, true, true, false, false] rfl ?_
        exact h
      · replace h := h.2 c6
        refine wg_iload dX3_shareOut_58 rfl ?_
        refine wg_iconst dX3_shareOut_60 qiconst_4 ?_
        refine wg_icmp_ge dX3_shareOut_61 rfl (fun c7 => ?_) (fun c7 => ?_)
        · replace h := h.1 c7
          refine wg_iload_n dX3_shareOut_73 rfl ?_
          refine wg_iload dX3_shareOut_74 rfl ?_
          refine wg_ixor dX3_shareOut_76 ?_
          refine wg_istore_n (L' := [some (vR 87), none, some (vI (ixorv s2 r5)), some (vI s3), some (vI (gI M 89 s3.toNat)), some (vI r5)]) dX3_shareOut_77 (Nat.le_of_ble_eq_true rfl) rfl ?_
          obtain ⟨o, h⟩ := h
          refine wg_iinc (L' := [some (vR 87), none, some (vI (ixorv s2 r5)), some (vI (s3 + 1)), some (vI (gI M 89 s3.toNat)), some (vI r5)]) dX3_shareOut_78 (Nat.le_of_ble_eq_true rfl) rfl rfl o ?_
          refine wg_goto dX3_shareOut_81 rfl ?_
          refine wg_weak [true, false, true, true, false, false] rfl ?_
          exact h
        · replace h := h.2 c7
          refine wg_aload_n dX3_shareOut_64 rfl (Nat.succ_ne_zero _) ?_
          refine wg_getRe dX3_shareOut_65 (fl_X3_26 rfl) rfl rfl (x87 hS 5 (r := 88) (Nat.le_of_ble_eq_true rfl) (Nat.le_of_ble_eq_true rfl) rfl) ?_
          refine wg_iload dX3_shareOut_68 rfl ?_
          refine wg_iload dX3_shareOut_70 rfl ?_
          obtain ⟨o8, h⟩ := h
          refine wg_iast dX3_shareOut_72 rfl o8.1 o8.2 ?_
          generalize hM : stI M4 88 (gI M 89 s3.toNat).toNat r5 = M9
          replace h := h _ hM.symm
          replace hS : ShX M9 := by rw [← hM]; exact hS
          clear hM
          refine wg_iload_n dX3_shareOut_73 rfl ?_
          refine wg_iload dX3_shareOut_74 rfl ?_
          refine wg_ixor dX3_shareOut_76 ?_
          refine wg_istore_n (L' := [some (vR 87), none, some (vI (ixorv s2 r5)), some (vI s3), some (vI (gI M 89 s3.toNat)), some (vI r5)]) dX3_shareOut_77 (Nat.le_of_ble_eq_true rfl) rfl ?_
          obtain ⟨o, h⟩ := h
          refine wg_iinc (L' := [some (vR 87), none, some (vI (ixorv s2 r5)), some (vI (s3 + 1)), some (vI (gI M 89 s3.toNat)), some (vI r5)]) dX3_shareOut_78 (Nat.le_of_ble_eq_true rfl) rfl rfl o ?_
          refine wg_goto dX3_shareOut_81 rfl ?_
          refine wg_weak [true, false, true, true, false, false] rfl ?_
          exact h
set_option maxRecDepth 100000 in
theorem bX3_mostBound_0 {G : GG} {d : Nat} {M : MM} {Q : Option AV → MM → Prop} (a1 : Int) (a2 : Int) (hS : ShX M) (h :
Wp G mX3_mostBound (d + 1) 0 0 2 [some (vR 87), some (vI a1), some (vI a2), some (vI 0)] [] M 0 0 Q) :
  Wp G mX3_mostBound (d + 1) 0 0 0 [some (vR 87), some (vI a1), some (vI a2), none] [] M 0 0 Q := by
  refine wg_iconst dX3_mostBound_0 qiconst_0 ?_
  refine wg_istore_n (L' := [some (vR 87), some (vI a1), some (vI a2), some (vI 0)]) dX3_mostBound_1 (Nat.le_of_ble_eq_true rfl) rfl ?_
  exact h
set_option maxRecDepth 100000 in
theorem bX3_mostBound_2 {G : GG} {d : Nat} {M : MM} {Q : Option AV → MM → Prop} (a1 : Int) (a2 : Int) (s3 : Int) (hS : ShX M) (h :
((gI M 30 0) ≤ s3 →
(Ok G mX3_mostKnown d 0 0 [vR 87, vI a2] M (fun v M2 => ∃ r3 : Int, v = some (vI r3) ∧ ShX M2 ∧ 
(Q (some (vI r3)) M2)))) ∧
(¬ ((gI M 30 0) ≤ s3) →
((1024 ≤ s3 →
(Ok G mX3_mostKnown d 0 0 [vR 87, vI a2] M (fun v M5 => ∃ r6 : Int, v = some (vI r6) ∧ ShX M5 ∧ 
(Q (some (vI r6)) M5)))) ∧
(¬ (1024 ≤ s3) →
(((iandv s3 (ixorv a2 (-1))) ≠ 0 →
(R32 (s3 + 1) ∧
(Wp G mX3_mostBound (d + 1) 0 0 2 [some (vR 87), some (vI a1), some (vI a2), some (vI (s3 + 1))] [] M 0 0 Q))) ∧
((iandv s3 (ixorv a2 (-1))) = 0 →
(Ok G mX3_mostOutOf d 0 0 [vR 87, vI s3, vI a1] M (fun v M8 => ∃ r9 : Int, v = some (vI r9) ∧ ShX M8 ∧ 
(((0 : Int) ≤ s3 ∧ (s3 : Int) < 1024) ∧
(∀ M11 : MM, M11 = stI M8 93 s3.toNat r9 →
(R32 (s3 + 1) ∧
(Wp G mX3_mostBound (d + 1) 0 0 2 [some (vR 87), some (vI a1), some (vI a2), some (vI (s3 + 1))] [] M11 0 0 Q)))))))))))) :
  Wp G mX3_mostBound (d + 1) 0 0 2 [some (vR 87), some (vI a1), some (vI a2), some (vI s3)] [] M 0 0 Q := by
  refine wg_iload_n dX3_mostBound_2 rfl ?_
  refine wg_aload_n dX3_mostBound_3 rfl (Nat.succ_ne_zero _) ?_
  refine wg_getRe dX3_mostBound_4 (fl_X3_48 rfl) rfl rfl (x87 hS 4 (r := 30) (Nat.le_of_ble_eq_true rfl) (Nat.le_of_ble_eq_true rfl) rfl) ?_
  refine wg_getI dX3_mostBound_7 (fl_X3_56 rfl) rfl rfl ?_
  refine wg_icmp_ge dX3_mostBound_10 rfl (fun c1 => ?_) (fun c1 => ?_)
  · replace h := h.1 c1
    refine wg_aload_n dX3_mostBound_46 rfl (Nat.succ_ne_zero _) ?_
    refine wg_iload_n dX3_mostBound_47 rfl ?_
    refine wg_callV (I' := mX3_mostKnown) (ci := 3) (np := 1) (d' := d) (q := 87) (as := [vI a2]) (st := []) dX3_mostBound_48 lk_X3_118 ci_X3_mostKnown rfl (Nat.le_of_ble_eq_true rfl) rfl rfl (Nat.le_of_ble_eq_true rfl) rfl (Nat.le_refl _) ⟨Nat.le_refl _, Nat.le_refl _⟩ h (fun v M2 h => ?_)
    obtain ⟨r3, rfl, hS, h⟩ := h
    exact wp_iret rfl dX3_mostBound_51 ⟨Nat.le_refl _, Nat.le_refl _⟩ h
  · replace h := h.2 c1
    refine wg_iload_n dX3_mostBound_13 rfl ?_
    refine wg_sipush dX3_mostBound_14 qsipush_1024 ?_
    refine wg_icmp_ge dX3_mostBound_17 rfl (fun c4 => ?_) (fun c4 => ?_)
    · replace h := h.1 c4
      refine wg_aload_n dX3_mostBound_46 rfl (Nat.succ_ne_zero _) ?_
      refine wg_iload_n dX3_mostBound_47 rfl ?_
      refine wg_callV (I' := mX3_mostKnown) (ci := 3) (np := 1) (d' := d) (q := 87) (as := [vI a2]) (st := []) dX3_mostBound_48 lk_X3_118 ci_X3_mostKnown rfl (Nat.le_of_ble_eq_true rfl) rfl rfl (Nat.le_of_ble_eq_true rfl) rfl (Nat.le_refl _) ⟨Nat.le_refl _, Nat.le_refl _⟩ h (fun v M5 h => ?_)
      obtain ⟨r6, rfl, hS, h⟩ := h
      exact wp_iret rfl dX3_mostBound_51 ⟨Nat.le_refl _, Nat.le_refl _⟩ h
    · replace h := h.2 c4
      refine wg_iload_n dX3_mostBound_20 rfl ?_
      refine wg_iload_n dX3_mostBound_21 rfl ?_
      refine wg_iconst dX3_mostBound_22 qiconst_m1 ?_
      refine wg_ixor dX3_mostBound_23 ?_
      refine wg_iand dX3_mostBound_24 ?_
      refine wg_if_ne dX3_mostBound_25 rfl (fun c7 => ?_) (fun c7 => ?_)
      · replace h := h.1 c7
        obtain ⟨o, h⟩ := h
        refine wg_iinc (L' := [some (vR 87), some (vI a1), some (vI a2), some (vI (s3 + 1))]) dX3_mostBound_40 (Nat.le_of_ble_eq_true rfl) rfl rfl o ?_
        refine wg_goto dX3_mostBound_43 rfl ?_
        exact h
      · replace h := h.2 c7
        refine wg_aload_n dX3_mostBound_28 rfl (Nat.succ_ne_zero _) ?_
        refine wg_getRe dX3_mostBound_29 (fl_X3_42 rfl) rfl rfl (x87 hS 10 (r := 93) (Nat.le_of_ble_eq_true rfl) (Nat.le_of_ble_eq_true rfl) rfl) ?_
        refine wg_iload_n dX3_mostBound_32 rfl ?_
        refine wg_aload_n dX3_mostBound_33 rfl (Nat.succ_ne_zero _) ?_
        refine wg_iload_n dX3_mostBound_34 rfl ?_
        refine wg_iload_n dX3_mostBound_35 rfl ?_
        refine wg_callV (I' := mX3_mostOutOf) (ci := 3) (np := 2) (d' := d) (q := 87) (as := [vI s3, vI a1]) (st := [vI s3, vR 93]) dX3_mostBound_36 lk_X3_115 ci_X3_mostOutOf rfl (Nat.le_of_ble_eq_true rfl) rfl rfl (Nat.le_of_ble_eq_true rfl) rfl (Nat.le_refl _) ⟨Nat.le_refl _, Nat.le_refl _⟩ h (fun v M8 h => ?_)
        obtain ⟨r9, rfl, hS, h⟩ := h
        obtain ⟨o10, h⟩ := h
        refine wg_iast dX3_mostBound_39 rfl o10.1 o10.2 ?_
        generalize hM : stI M8 93 s3.toNat r9 = M11
        replace h := h _ hM.symm
        replace hS : ShX M11 := by rw [← hM]; exact hS
        clear hM
        obtain ⟨o, h⟩ := h
        refine wg_iinc (L' := [some (vR 87), some (vI a1), some (vI a2), some (vI (s3 + 1))]) dX3_mostBound_40 (Nat.le_of_ble_eq_true rfl) rfl rfl o ?_
        refine wg_goto dX3_mostBound_43 rfl ?_
        exact h
set_option maxRecDepth 100000 in
theorem bX3_mostOutOf_0 {G : GG} {d : Nat} {M : MM} {Q : Option AV → MM → Prop} (a1 : Int) (a2 : Int) (hS : ShX M) (h :
R32 (-a1) ∧
((a1 = 0 →
(Q (some (vI 0)) M)) ∧
(¬ (a1 = 0) →
((1 ≤ a2 →
(Ok G mX3_mostKnown d 0 0 [vR 87, vI (ixorv a1 (iandv a1 (-a1)))] M (fun v M3 => ∃ r4 : Int, v = some (vI r4) ∧ ShX M3 ∧ 
(R32 (r4 + 1) ∧
(Ok G mX6_strengthOf d 0 0 [vR 30, vI a1] M3 (fun v M5 => ∃ r6 : Int, v = some (vI r6) ∧ ShX M5 ∧ 
(a2 ≠ 0 ∧
R32 (Int.tdiv r6 a2) ∧
(Wp G mX3_mostOutOf (d + 1) 0 0 52 [some (vR 87), none, some (vI a2), some (vI (iandv a1 (-a1))), some (vI (ixorv a1 (iandv a1 (-a1)))), some (vI r4), some (vI (if Int.tdiv r6 a2 < r4 + 1 then Int.tdiv r6 a2 else r4 + 1)), some (vI (ixorv a1 (iandv a1 (-a1))))] [] M5 0 0 Q)))))))) ∧
(¬ (1 ≤ a2) →
(Q (some (vI 0)) M)))))) :
  Wp G mX3_mostOutOf (d + 1) 0 0 0 [some (vR 87), some (vI a1), some (vI a2), none, none, none, none, none] [] M 0 0 Q := by
  refine wg_iload_n dX3_mostOutOf_0 rfl ?_
  refine wg_iload_n dX3_mostOutOf_1 rfl ?_
  obtain ⟨o, h⟩ := h
  refine wg_ineg dX3_mostOutOf_2 o ?_
  refine wg_iand dX3_mostOutOf_3 ?_
  refine wg_istore_n (L' := [some (vR 87), some (vI a1), some (vI a2), some (vI (iandv a1 (-a1))), none, none, none, none]) dX3_mostOutOf_4 (Nat.le_of_ble_eq_true rfl) rfl ?_
  refine wg_iload_n dX3_mostOutOf_5 rfl ?_
  refine wg_iload_n dX3_mostOutOf_6 rfl ?_
  refine wg_ixor dX3_mostOutOf_7 ?_
  refine wg_istore (L' := [some (vR 87), some (vI a1), some (vI a2), some (vI (iandv a1 (-a1))), some (vI (ixorv a1 (iandv a1 (-a1)))), none, none, none]) dX3_mostOutOf_8 (Nat.le_of_ble_eq_true rfl) rfl ?_
  refine wg_iload_n dX3_mostOutOf_10 rfl ?_
  refine wg_if_eq dX3_mostOutOf_11 rfl (fun c1 => ?_) (fun c1 => ?_)
  · replace h := h.1 c1
    refine wg_iconst dX3_mostOutOf_19 qiconst_0 ?_
    exact wp_iret rfl dX3_mostOutOf_20 ⟨Nat.le_refl _, Nat.le_refl _⟩ h
  · replace h := h.2 c1
    refine wg_iload_n dX3_mostOutOf_14 rfl ?_
    refine wg_iconst dX3_mostOutOf_15 qiconst_1 ?_
    refine wg_icmp_ge dX3_mostOutOf_16 rfl (fun c2 => ?_) (fun c2 => ?_)
    · replace h := h.1 c2
      refine wg_aload_n dX3_mostOutOf_21 rfl (Nat.succ_ne_zero _) ?_
      refine wg_iload dX3_mostOutOf_22 rfl ?_
      refine wg_callV (I' := mX3_mostKnown) (ci := 3) (np := 1) (d' := d) (q := 87) (as := [vI (ixorv a1 (iandv a1 (-a1)))]) (st := []) dX3_mostOutOf_24 lk_X3_118 ci_X3_mostKnown rfl (Nat.le_of_ble_eq_true rfl) rfl rfl (Nat.le_of_ble_eq_true rfl) rfl (Nat.le_refl _) ⟨Nat.le_refl _, Nat.le_refl _⟩ h (fun v M3 h => ?_)
      obtain ⟨r4, rfl, hS, h⟩ := h
      refine wg_istore (L' := [some (vR 87), some (vI a1), some (vI a2), some (vI (iandv a1 (-a1))), some (vI (ixorv a1 (iandv a1 (-a1)))), some (vI r4), none, none]) dX3_mostOutOf_27 (Nat.le_of_ble_eq_true rfl) rfl ?_
      refine wg_iload dX3_mostOutOf_29 rfl ?_
      refine wg_iconst dX3_mostOutOf_31 qiconst_1 ?_
      obtain ⟨o, h⟩ := h
      refine wg_iadd dX3_mostOutOf_32 o ?_
      refine wg_aload_n dX3_mostOutOf_33 rfl (Nat.succ_ne_zero _) ?_
      refine wg_getRe dX3_mostOutOf_34 (fl_X3_48 rfl) rfl rfl (x87 hS 4 (r := 30) (Nat.le_of_ble_eq_true rfl) (Nat.le_of_ble_eq_true rfl) rfl) ?_
      refine wg_iload_n dX3_mostOutOf_37 rfl ?_
      refine wg_callV (I' := mX6_strengthOf) (ci := 6) (np := 1) (d' := d) (q := 30) (as := [vI a1]) (st := [vI (r4 + 1)]) dX3_mostOutOf_38 lk_X3_59 ci_X6_strengthOf rfl (Nat.le_of_ble_eq_true rfl) rfl rfl (Nat.le_of_ble_eq_true rfl) rfl (Nat.le_refl _) ⟨Nat.le_refl _, Nat.le_refl _⟩ h (fun v M5 h => ?_)
      obtain ⟨r6, rfl, hS, h⟩ := h
      refine wg_iload_n dX3_mostOutOf_41 rfl ?_
      obtain ⟨o1, h⟩ := h
      obtain ⟨o, h⟩ := h
      refine wg_idiv dX3_mostOutOf_42 o1 o ?_
      refine wg_mmin dX3_mostOutOf_43 lk_X3_121 ma_min_s in_Math ma_min_c (Nat.le_of_ble_eq_true rfl) (Nat.le_add_left 1 d) ⟨Nat.le_refl _, Nat.le_refl _⟩ ?_
      refine wg_istore (L' := [some (vR 87), some (vI a1), some (vI a2), some (vI (iandv a1 (-a1))), some (vI (ixorv a1 (iandv a1 (-a1)))), some (vI r4), some (vI (if Int.tdiv r6 a2 < r4 + 1 then Int.tdiv r6 a2 else r4 + 1)), none]) dX3_mostOutOf_46 (Nat.le_of_ble_eq_true rfl) rfl ?_
      refine wg_iload dX3_mostOutOf_48 rfl ?_
      refine wg_istore (L' := [some (vR 87), some (vI a1), some (vI a2), some (vI (iandv a1 (-a1))), some (vI (ixorv a1 (iandv a1 (-a1)))), some (vI r4), some (vI (if Int.tdiv r6 a2 < r4 + 1 then Int.tdiv r6 a2 else r4 + 1)), some (vI (ixorv a1 (iandv a1 (-a1))))]) dX3_mostOutOf_50 (Nat.le_of_ble_eq_true rfl) rfl ?_
      refine wg_weak [true, false, true, true, true, true, true, true] rfl ?_
      exact h
    · replace h := h.2 c2
      refine wg_iconst dX3_mostOutOf_19 qiconst_0 ?_
      exact wp_iret rfl dX3_mostOutOf_20 ⟨Nat.le_refl _, Nat.le_refl _⟩ h
set_option maxRecDepth 100000 in
theorem bX3_mostOutOf_52 {G : GG} {d : Nat} {M : MM} {Q : Option AV → MM → Prop} (a2 : Int) (s3 : Int) (s4 : Int) (s5 : Int) (s6 : Int) (s7 : Int) (hS : ShX M) (h :
(s7 < 0 →
(Q (some (vI s5)) M)) ∧
(¬ (s7 < 0) →
((s6 ≤ s5 →
(Q (some (vI s5)) M)) ∧
(¬ (s6 ≤ s5) →
(Ok G mX6_strengthOf d 0 0 [vR 30, vI (iorv s7 s3)] M (fun v M3 => ∃ r4 : Int, v = some (vI r4) ∧ ShX M3 ∧ 
((r4 < a2 →
((s7 ≠ 0 →
(R32 (s7 - 1) ∧
(Wp G mX3_mostOutOf (d + 1) 0 0 52 [some (vR 87), none, some (vI a2), some (vI s3), some (vI s4), some (vI s5), some (vI s6), some (vI (iandv (s7 - 1) s4))] [] M3 0 0 Q))) ∧
(s7 = 0 →
(Wp G mX3_mostOutOf (d + 1) 0 0 52 [some (vR 87), none, some (vI a2), some (vI s3), some (vI s4), some (vI s5), some (vI s6), some (vI (-1))] [] M3 0 0 Q)))) ∧
(¬ (r4 < a2) →
(Ok G mX3_mostKnown d 0 0 [vR 87, vI (ixorv s4 s7)] M3 (fun v M7 => ∃ r8 : Int, v = some (vI r8) ∧ ShX M7 ∧ 
(R32 (1 + r8) ∧
((s7 ≠ 0 →
(R32 (s7 - 1) ∧
(Wp G mX3_mostOutOf (d + 1) 0 0 52 [some (vR 87), none, some (vI a2), some (vI s3), some (vI s4), some (vI (if s5 < 1 + r8 then 1 + r8 else s5)), some (vI s6), some (vI (iandv (s7 - 1) s4))] [] M7 0 0 Q))) ∧
(s7 = 0 →
(Wp G mX3_mostOutOf (d + 1) 0 0 52 [some (vR 87), none, some (vI a2), some (vI s3), some (vI s4), some (vI (if s5 < 1 + r8 then 1 + r8 else s5)), some (vI s6), some (vI (-1))] [] M7 0 0 Q)))))))))))))) :
  Wp G mX3_mostOutOf (d + 1) 0 0 52 [some (vR 87), none, some (vI a2), some (vI s3), some (vI s4), some (vI s5), some (vI s6), some (vI s7)] [] M 0 0 Q := by
  refine wg_iload dX3_mostOutOf_52 rfl ?_
  refine wg_if_lt dX3_mostOutOf_54 rfl (fun c1 => ?_) (fun c1 => ?_)
  · replace h := h.1 c1
    refine wg_iload dX3_mostOutOf_118 rfl ?_
    exact wp_iret rfl dX3_mostOutOf_120 ⟨Nat.le_refl _, Nat.le_refl _⟩ h
  · replace h := h.2 c1
    refine wg_iload dX3_mostOutOf_57 rfl ?_
    refine wg_iload dX3_mostOutOf_59 rfl ?_
    refine wg_icmp_ge dX3_mostOutOf_61 rfl (fun c2 => ?_) (fun c2 => ?_)
    · replace h := h.1 c2
      refine wg_iload dX3_mostOutOf_118 rfl ?_
      exact wp_iret rfl dX3_mostOutOf_120 ⟨Nat.le_refl _, Nat.le_refl _⟩ h
    · replace h := h.2 c2
      refine wg_aload_n dX3_mostOutOf_64 rfl (Nat.succ_ne_zero _) ?_
      refine wg_getRe dX3_mostOutOf_65 (fl_X3_48 rfl) rfl rfl (x87 hS 4 (r := 30) (Nat.le_of_ble_eq_true rfl) (Nat.le_of_ble_eq_true rfl) rfl) ?_
      refine wg_iload dX3_mostOutOf_68 rfl ?_
      refine wg_iload_n dX3_mostOutOf_70 rfl ?_
      refine wg_ior dX3_mostOutOf_71 ?_
      refine wg_callV (I' := mX6_strengthOf) (ci := 6) (np := 1) (d' := d) (q := 30) (as := [vI (iorv s7 s3)]) (st := []) dX3_mostOutOf_72 lk_X3_59 ci_X6_strengthOf rfl (Nat.le_of_ble_eq_true rfl) rfl rfl (Nat.le_of_ble_eq_true rfl) rfl (Nat.le_refl _) ⟨Nat.le_refl _, Nat.le_refl _⟩ h (fun v M3 h => ?_)
      obtain ⟨r4, rfl, hS, h⟩ := h
      refine wg_iload_n dX3_mostOutOf_75 rfl ?_
      refine wg_icmp_lt dX3_mostOutOf_76 rfl (fun c5 => ?_) (fun c5 => ?_)
      · replace h := h.1 c5
        refine wg_iload dX3_mostOutOf_97 rfl ?_
        refine wg_if_ne dX3_mostOutOf_99 rfl (fun c6 => ?_) (fun c6 => ?_)
        · replace h := h.1 c6
          refine wg_iload dX3_mostOutOf_106 rfl ?_
          refine wg_iconst dX3_mostOutOf_108 qiconst_1 ?_
          obtain ⟨o, h⟩ := h
          refine wg_isub dX3_mostOutOf_109 o ?_
          refine wg_iload dX3_mostOutOf_110 rfl ?_
          refine wg_iand dX3_mostOutOf_112 ?_
          refine wg_istore (L' := [some (vR 87), none, some (vI a2), some (vI s3), some (vI s4), some (vI s5), some (vI s6), some (vI (iandv (s7 - 1) s4))]) dX3_mostOutOf_113 (Nat.le_of_ble_eq_true rfl) rfl ?_
          refine wg_goto dX3_mostOutOf_115 rfl ?_
          exact h
        · replace h := h.2 c6
          refine wg_iconst dX3_mostOutOf_102 qiconst_m1 ?_
          refine wg_goto dX3_mostOutOf_103 rfl ?_
          refine wg_istore (L' := [some (vR 87), none, some (vI a2), some (vI s3), some (vI s4), some (vI s5), some (vI s6), some (vI (-1))]) dX3_mostOutOf_113 (Nat.le_of_ble_eq_true rfl) rfl ?_
          refine wg_goto dX3_mostOutOf_115 rfl ?_
          exact h
      · replace h := h.2 c5
        refine wg_iload dX3_mostOutOf_79 rfl ?_
        refine wg_iconst dX3_mostOutOf_81 qiconst_1 ?_
        refine wg_aload_n dX3_mostOutOf_82 rfl (Nat.succ_ne_zero _) ?_
        refine wg_iload dX3_mostOutOf_83 rfl ?_
        refine wg_iload dX3_mostOutOf_85 rfl ?_
        refine wg_ixor dX3_mostOutOf_87 ?_
        refine wg_callV (I' := mX3_mostKnown) (ci := 3) (np := 1) (d' := d) (q := 87) (as := [vI (ixorv s4 s7)]) (st := [vI 1, vI s5]) dX3_mostOutOf_88 lk_X3_118 ci_X3_mostKnown rfl (Nat.le_of_ble_eq_true rfl) rfl rfl (Nat.le_of_ble_eq_true rfl) rfl (Nat.le_refl _) ⟨Nat.le_refl _, Nat.le_refl _⟩ h (fun v M7 h => ?_)
        obtain ⟨r8, rfl, hS, h⟩ := h
        obtain ⟨o, h⟩ := h
        refine wg_iadd dX3_mostOutOf_91 o ?_
        refine wg_mmax dX3_mostOutOf_92 lk_X3_126 ma_max_s in_Math ma_max_c (Nat.le_of_ble_eq_true rfl) (Nat.le_add_left 1 d) ⟨Nat.le_refl _, Nat.le_refl _⟩ ?_
        refine wg_istore (L' := [some (vR 87), none, some (vI a2), some (vI s3), some (vI s4), some (vI (if s5 < 1 + r8 then 1 + r8 else s5)), some (vI s6), some (vI s7)]) dX3_mostOutOf_95 (Nat.le_of_ble_eq_true rfl) rfl ?_
        refine wg_iload dX3_mostOutOf_97 rfl ?_
        refine wg_if_ne dX3_mostOutOf_99 rfl (fun c9 => ?_) (fun c9 => ?_)
        · replace h := h.1 c9
          refine wg_iload dX3_mostOutOf_106 rfl ?_
          refine wg_iconst dX3_mostOutOf_108 qiconst_1 ?_
          obtain ⟨o, h⟩ := h
          refine wg_isub dX3_mostOutOf_109 o ?_
          refine wg_iload dX3_mostOutOf_110 rfl ?_
          refine wg_iand dX3_mostOutOf_112 ?_
          refine wg_istore (L' := [some (vR 87), none, some (vI a2), some (vI s3), some (vI s4), some (vI (if s5 < 1 + r8 then 1 + r8 else s5)), some (vI s6), some (vI (iandv (s7 - 1) s4))]) dX3_mostOutOf_113 (Nat.le_of_ble_eq_true rfl) rfl ?_
          refine wg_goto dX3_mostOutOf_115 rfl ?_
          exact h
        · replace h := h.2 c9
          refine wg_iconst dX3_mostOutOf_102 qiconst_m1 ?_
          refine wg_goto dX3_mostOutOf_103 rfl ?_
          refine wg_istore (L' := [some (vR 87), none, some (vI a2), some (vI s3), some (vI s4), some (vI (if s5 < 1 + r8 then 1 + r8 else s5)), some (vI s6), some (vI (-1))]) dX3_mostOutOf_113 (Nat.le_of_ble_eq_true rfl) rfl ?_
          refine wg_goto dX3_mostOutOf_115 rfl ?_
          exact h
set_option maxRecDepth 100000 in
theorem bX3_mostKnown_0 {G : GG} {d : Nat} {M : MM} {Q : Option AV → MM → Prop} (a1 : Int) (hS : ShX M) (h :
(a1 < 0 →
(Q (some (vI 0)) M)) ∧
(¬ (a1 < 0) →
((1024 ≤ a1 →
(Q (some (vI 0)) M)) ∧
(¬ (1024 ≤ a1) →
(((0 : Int) ≤ a1 ∧ (a1 : Int) < 1024) ∧
(Q (some (vI (gI M 93 a1.toNat))) M)))))) :
  Wp G mX3_mostKnown d 0 0 0 [some (vR 87), some (vI a1)] [] M 0 0 Q := by
  refine wg_iload_n dX3_mostKnown_0 rfl ?_
  refine wg_if_lt dX3_mostKnown_1 rfl (fun c1 => ?_) (fun c1 => ?_)
  · replace h := h.1 c1
    refine wg_iconst dX3_mostKnown_20 qiconst_0 ?_
    exact wp_iret rfl dX3_mostKnown_21 ⟨Nat.le_refl _, Nat.le_refl _⟩ h
  · replace h := h.2 c1
    refine wg_iload_n dX3_mostKnown_4 rfl ?_
    refine wg_sipush dX3_mostKnown_5 qsipush_1024 ?_
    refine wg_icmp_ge dX3_mostKnown_8 rfl (fun c2 => ?_) (fun c2 => ?_)
    · replace h := h.1 c2
      refine wg_iconst dX3_mostKnown_20 qiconst_0 ?_
      exact wp_iret rfl dX3_mostKnown_21 ⟨Nat.le_refl _, Nat.le_refl _⟩ h
    · replace h := h.2 c2
      refine wg_aload_n dX3_mostKnown_11 rfl (Nat.succ_ne_zero _) ?_
      refine wg_getRe dX3_mostKnown_12 (fl_X3_42 rfl) rfl rfl (x87 hS 10 (r := 93) (Nat.le_of_ble_eq_true rfl) (Nat.le_of_ble_eq_true rfl) rfl) ?_
      refine wg_iload_n dX3_mostKnown_15 rfl ?_
      obtain ⟨o3, h⟩ := h
      refine wg_iald dX3_mostKnown_16 rfl o3.1 o3.2 ?_
      refine wg_goto dX3_mostKnown_17 rfl ?_
      exact wp_iret rfl dX3_mostKnown_21 ⟨Nat.le_refl _, Nat.le_refl _⟩ h
