/-! ===== blocks, by program: from a loop's head or an entry to the next heads, calls, ends ===== -/
theorem qbipush_m4 : -128 ≤ ((-4) : Int) ∧ ((-4) : Int) < 128 := ⟨by decide, by decide⟩
theorem qbipush_6 : -128 ≤ ((6) : Int) ∧ ((6) : Int) < 128 := ⟨by decide, by decide⟩
theorem qbipush_8 : -128 ≤ ((8) : Int) ∧ ((8) : Int) < 128 := ⟨by decide, by decide⟩
theorem qbipush_9 : -128 ≤ ((9) : Int) ∧ ((9) : Int) < 128 := ⟨by decide, by decide⟩
theorem qbipush_10 : -128 ≤ ((10) : Int) ∧ ((10) : Int) < 128 := ⟨by decide, by decide⟩
theorem qbipush_12 : -128 ≤ ((12) : Int) ∧ ((12) : Int) < 128 := ⟨by decide, by decide⟩
theorem qbipush_20 : -128 ≤ ((20) : Int) ∧ ((20) : Int) < 128 := ⟨by decide, by decide⟩
theorem qbipush_44 : -128 ≤ ((44) : Int) ∧ ((44) : Int) < 128 := ⟨by decide, by decide⟩
theorem qbipush_48 : -128 ≤ ((48) : Int) ∧ ((48) : Int) < 128 := ⟨by decide, by decide⟩
theorem qbipush_57 : -128 ≤ ((57) : Int) ∧ ((57) : Int) < 128 := ⟨by decide, by decide⟩
theorem qbipush_59 : -128 ≤ ((59) : Int) ∧ ((59) : Int) < 128 := ⟨by decide, by decide⟩
theorem qbipush_90 : -128 ≤ ((90) : Int) ∧ ((90) : Int) < 128 := ⟨by decide, by decide⟩
theorem qiconst_m1 : R32 (-1) := ⟨by decide, by decide⟩
theorem qiconst_0 : R32 (0) := ⟨by decide, by decide⟩
theorem qiconst_1 : R32 (1) := ⟨by decide, by decide⟩
theorem qiconst_2 : R32 (2) := ⟨by decide, by decide⟩
theorem qiconst_3 : R32 (3) := ⟨by decide, by decide⟩
theorem qiconst_4 : R32 (4) := ⟨by decide, by decide⟩
theorem qsipush_200 : -32768 ≤ ((200) : Int) ∧ ((200) : Int) < 32768 := ⟨by decide, by decide⟩
theorem qsipush_1024 : -32768 ≤ ((1024) : Int) ∧ ((1024) : Int) < 32768 := ⟨by decide, by decide⟩
set_option maxRecDepth 100000 in
theorem bX1_append_0 {G : GG} {d : Nat} {M : MM} {Q : Option AV → MM → Prop} (a1 : Int) (hS : ShX M) (h :
((gI M 2 1) < 0 →
(Q (some (vI 0)) M)) ∧
(¬ ((gI M 2 1) < 0) →
(((gI M 2 1) < 200 →
(((0 : Int) ≤ gI M 2 1 ∧ (gI M 2 1 : Int) < 200) ∧
(∀ M4 : MM, M4 = stI M 3 (gI M 2 1).toNat a1 →
(R32 ((gI M4 2 1) + 1) ∧
(∀ M5 : MM, M5 = stI M4 2 1 ((gI M4 2 1) + 1) →
(Q (some (vI 1)) M5)))))) ∧
(¬ ((gI M 2 1) < 200) →
(Q (some (vI 0)) M))))) :
  Wp G mX1_append d 0 0 0 [some (vR 2), some (vI a1)] [] M 0 0 Q := by
  refine wg_aload_n dX1_append_0 rfl (Nat.succ_ne_zero _) ?_
  refine wg_getI dX1_append_1 (fl_X1_13 rfl) rfl rfl ?_
  refine wg_if_lt dX1_append_4 rfl (fun c1 => ?_) (fun c1 => ?_)
  · replace h := h.1 c1
    refine wg_iconst dX1_append_17 qiconst_0 ?_
    exact wp_zret rfl dX1_append_18 ⟨Nat.le_refl _, Nat.le_refl _⟩ (Or.inl rfl) h
  · replace h := h.2 c1
    refine wg_aload_n dX1_append_7 rfl (Nat.succ_ne_zero _) ?_
    refine wg_getI dX1_append_8 (fl_X1_13 rfl) rfl rfl ?_
    refine wg_sipush dX1_append_11 qsipush_200 ?_
    refine wg_icmp_lt dX1_append_14 rfl (fun c2 => ?_) (fun c2 => ?_)
    · replace h := h.1 c2
      refine wg_aload_n dX1_append_19 rfl (Nat.succ_ne_zero _) ?_
      refine wg_getRe dX1_append_20 (fl_X1_9 rfl) rfl rfl hS.2.1.1 ?_
      refine wg_aload_n dX1_append_23 rfl (Nat.succ_ne_zero _) ?_
      refine wg_getI dX1_append_24 (fl_X1_13 rfl) rfl rfl ?_
      refine wg_iload_n dX1_append_27 rfl ?_
      obtain ⟨o3, h⟩ := h
      refine wg_iast dX1_append_28 rfl o3.1 o3.2 ?_
      generalize hM : stI M 3 (gI M 2 1).toNat a1 = M4
      replace h := h _ hM.symm
      replace hS : ShX M4 := by rw [← hM]; exact hS
      clear hM
      refine wg_aload_n dX1_append_29 rfl (Nat.succ_ne_zero _) ?_
      refine wg_dup dX1_append_30 rfl ?_
      refine wg_getI dX1_append_31 (fl_X1_13 rfl) rfl rfl ?_
      refine wg_iconst dX1_append_34 qiconst_1 ?_
      obtain ⟨o, h⟩ := h
      refine wg_iadd dX1_append_35 o ?_
      refine wg_putI dX1_append_36 (fl_X1_13 rfl) rfl rfl rfl ?_
      generalize hM : stI M4 2 1 ((gI M4 2 1) + 1) = M5
      replace h := h _ hM.symm
      replace hS : ShX M5 := by rw [← hM]; exact hS
      clear hM
      refine wg_iconst dX1_append_39 qiconst_1 ?_
      exact wp_zret rfl dX1_append_40 ⟨Nat.le_refl _, Nat.le_refl _⟩ (Or.inr rfl) h
    · replace h := h.2 c2
      refine wg_iconst dX1_append_17 qiconst_0 ?_
      exact wp_zret rfl dX1_append_18 ⟨Nat.le_refl _, Nat.le_refl _⟩ (Or.inl rfl) h
set_option maxRecDepth 100000 in
theorem bX1_clear_0 {G : GG} {d : Nat} {M : MM} {Q : Option AV → MM → Prop} (hS : ShX M) (h :
∀ M1 : MM, M1 = stI M 2 1 0 →
(Q none M1)) :
  Wp G mX1_clear d 0 0 0 [some (vR 2)] [] M 0 0 Q := by
  refine wg_aload_n dX1_clear_0 rfl (Nat.succ_ne_zero _) ?_
  refine wg_iconst dX1_clear_1 qiconst_0 ?_
  refine wg_putI dX1_clear_2 (fl_X1_13 rfl) rfl rfl rfl ?_
  generalize hM : stI M 2 1 0 = M1
  replace h := h _ hM.symm
  replace hS : ShX M1 := by rw [← hM]; exact hS
  clear hM
  exact wp_vret rfl dX1_clear_5 ⟨Nat.le_refl _, Nat.le_refl _⟩ h
set_option maxRecDepth 100000 in
theorem bX1_size_0 {G : GG} {d : Nat} {M : MM} {Q : Option AV → MM → Prop} (hS : ShX M) (h :
Q (some (vI (gI M 2 1))) M) :
  Wp G mX1_size d 0 0 0 [some (vR 2)] [] M 0 0 Q := by
  refine wg_aload_n dX1_size_0 rfl (Nat.succ_ne_zero _) ?_
  refine wg_getI dX1_size_1 (fl_X1_13 rfl) rfl rfl ?_
  exact wp_iret rfl dX1_size_4 ⟨Nat.le_refl _, Nat.le_refl _⟩ h
set_option maxRecDepth 100000 in
theorem bX1_signAt_0 {G : GG} {d : Nat} {M : MM} {Q : Option AV → MM → Prop} (a1 : Int) (hS : ShX M) (h :
(a1 < 0 →
(Q (some (vI (-1))) M)) ∧
(¬ (a1 < 0) →
(((gI M 2 1) ≤ a1 →
(Q (some (vI (-1))) M)) ∧
(¬ ((gI M 2 1) ≤ a1) →
((200 ≤ a1 →
(Q (some (vI (-1))) M)) ∧
(¬ (200 ≤ a1) →
(((0 : Int) ≤ a1 ∧ (a1 : Int) < 200) ∧
(Q (some (vI (gI M 3 a1.toNat))) M)))))))) :
  Wp G mX1_signAt d 0 0 0 [some (vR 2), some (vI a1)] [] M 0 0 Q := by
  refine wg_iload_n dX1_signAt_0 rfl ?_
  refine wg_if_lt dX1_signAt_1 rfl (fun c1 => ?_) (fun c1 => ?_)
  · replace h := h.1 c1
    refine wg_iconst dX1_signAt_28 qiconst_m1 ?_
    exact wp_iret rfl dX1_signAt_29 ⟨Nat.le_refl _, Nat.le_refl _⟩ h
  · replace h := h.2 c1
    refine wg_iload_n dX1_signAt_4 rfl ?_
    refine wg_aload_n dX1_signAt_5 rfl (Nat.succ_ne_zero _) ?_
    refine wg_getI dX1_signAt_6 (fl_X1_13 rfl) rfl rfl ?_
    refine wg_icmp_ge dX1_signAt_9 rfl (fun c2 => ?_) (fun c2 => ?_)
    · replace h := h.1 c2
      refine wg_iconst dX1_signAt_28 qiconst_m1 ?_
      exact wp_iret rfl dX1_signAt_29 ⟨Nat.le_refl _, Nat.le_refl _⟩ h
    · replace h := h.2 c2
      refine wg_iload_n dX1_signAt_12 rfl ?_
      refine wg_sipush dX1_signAt_13 qsipush_200 ?_
      refine wg_icmp_ge dX1_signAt_16 rfl (fun c3 => ?_) (fun c3 => ?_)
      · replace h := h.1 c3
        refine wg_iconst dX1_signAt_28 qiconst_m1 ?_
        exact wp_iret rfl dX1_signAt_29 ⟨Nat.le_refl _, Nat.le_refl _⟩ h
      · replace h := h.2 c3
        refine wg_aload_n dX1_signAt_19 rfl (Nat.succ_ne_zero _) ?_
        refine wg_getRe dX1_signAt_20 (fl_X1_9 rfl) rfl rfl hS.2.1.1 ?_
        refine wg_iload_n dX1_signAt_23 rfl ?_
        obtain ⟨o4, h⟩ := h
        refine wg_iald dX1_signAt_24 rfl o4.1 o4.2 ?_
        refine wg_goto dX1_signAt_25 rfl ?_
        exact wp_iret rfl dX1_signAt_29 ⟨Nat.le_refl _, Nat.le_refl _⟩ h
set_option maxRecDepth 100000 in
theorem bX2_size_0 {G : GG} {d : Nat} {M : MM} {Q : Option AV → MM → Prop} (p0 : Nat) (hk0 : kd p0 = 2) (hS : ShX M) (h :
Q (some (vI (gI M p0 1))) M) :
  Wp G mX2_size d 0 0 0 [some (vR p0)] [] M 0 0 Q := by
  refine wg_aload_n dX2_size_0 rfl (kn2 hk0) ?_
  refine wg_getI dX2_size_1 (fl_X2_7 rfl) rfl hk0 ?_
  exact wp_iret rfl dX2_size_4 ⟨Nat.le_refl _, Nat.le_refl _⟩ h
set_option maxRecDepth 100000 in
theorem bX2_clear_0 {G : GG} {d : Nat} {M : MM} {Q : Option AV → MM → Prop} (p0 : Nat) (hk0 : kd p0 = 2) (hS : ShX M) (h :
∀ M1 : MM, M1 = stI M p0 1 0 →
(Q none M1)) :
  Wp G mX2_clear d 0 0 0 [some (vR p0)] [] M 0 0 Q := by
  refine wg_aload_n dX2_clear_0 rfl (kn2 hk0) ?_
  refine wg_iconst dX2_clear_1 qiconst_0 ?_
  refine wg_putI dX2_clear_2 (fl_X2_7 rfl) rfl rfl hk0 ?_
  generalize hM : stI M p0 1 0 = M1
  replace h := h _ hM.symm
  replace hS : ShX M1 := by rw [← hM]; exact hS
  clear hM
  exact wp_vret rfl dX2_clear_5 ⟨Nat.le_refl _, Nat.le_refl _⟩ h
set_option maxRecDepth 100000 in
theorem bX2_push_0 {G : GG} {d : Nat} {M : MM} {Q : Option AV → MM → Prop} (p0 : Nat) (hk0 : kd p0 = 2) (p1 : Nat) (hk1 : kd p1 = 5) (hS : ShX M) (h :
((gI M p0 1) < (ln (p0 + 1) : Int) →
(((gI M p0 1) < 0 →
(Q none M)) ∧
(¬ ((gI M p0 1) < 0) →
(((ln (p0 + 1) : Int) ≤ (gI M p0 1) →
(Q none M)) ∧
(¬ ((ln (p0 + 1) : Int) ≤ (gI M p0 1)) →
(((0 : Int) ≤ gI M p0 1 ∧ (gI M p0 1 : Int) < (ln (p0 + 1) : Int)) ∧
((Ok G mX5_copyFrom d 0 0 [vR (gR M (p0 + 1) (gI M p0 1).toNat), vR p1] M (fun v M7 => v = none ∧ ShX M7 ∧ 
(R32 ((gI M7 p0 1) + 1) ∧
(∀ M8 : MM, M8 = stI M7 p0 1 ((gI M7 p0 1) + 1) →
(Q none M8)))))))))))) ∧
(¬ ((gI M p0 1) < (ln (p0 + 1) : Int)) →
(Ok G mX2_forgetOldest d 0 0 [vR p0] M (fun v M9 => v = none ∧ ShX M9 ∧ 
(((gI M9 p0 1) < 0 →
(Q none M9)) ∧
(¬ ((gI M9 p0 1) < 0) →
(((ln (p0 + 1) : Int) ≤ (gI M9 p0 1) →
(Q none M9)) ∧
(¬ ((ln (p0 + 1) : Int) ≤ (gI M9 p0 1)) →
(((0 : Int) ≤ gI M9 p0 1 ∧ (gI M9 p0 1 : Int) < (ln (p0 + 1) : Int)) ∧
((Ok G mX5_copyFrom d 0 0 [vR (gR M9 (p0 + 1) (gI M9 p0 1).toNat), vR p1] M9 (fun v M15 => v = none ∧ ShX M15 ∧ 
(R32 ((gI M15 p0 1) + 1) ∧
(∀ M16 : MM, M16 = stI M15 p0 1 ((gI M15 p0 1) + 1) →
(Q none M16))))))))))))))) :
  Wp G mX2_push (d + 1) 0 0 0 [some (vR p0), some (vR p1)] [] M 0 0 Q := by
  refine wg_aload_n dX2_push_0 rfl (kn2 hk0) ?_
  refine wg_getI dX2_push_1 (fl_X2_7 rfl) rfl hk0 ?_
  refine wg_aload_n dX2_push_4 rfl (kn2 hk0) ?_
  refine wg_getRe dX2_push_5 (fl_X2_21 rfl) rfl hk0 (x2 hS hk0) ?_
  refine wg_alen dX2_push_8 (Or.inr (k2 hk0)) ?_
  refine wg_icmp_lt dX2_push_9 rfl (fun c1 => ?_) (fun c1 => ?_)
  · replace h := h.1 c1
    refine wg_aload_n dX2_push_16 rfl (kn2 hk0) ?_
    refine wg_getI dX2_push_17 (fl_X2_7 rfl) rfl hk0 ?_
    refine wg_if_lt dX2_push_20 rfl (fun c2 => ?_) (fun c2 => ?_)
    · replace h := h.1 c2
      exact wp_vret rfl dX2_push_70 ⟨Nat.le_refl _, Nat.le_refl _⟩ h
    · replace h := h.2 c2
      refine wg_aload_n dX2_push_23 rfl (kn2 hk0) ?_
      refine wg_getI dX2_push_24 (fl_X2_7 rfl) rfl hk0 ?_
      refine wg_aload_n dX2_push_27 rfl (kn2 hk0) ?_
      refine wg_getRe dX2_push_28 (fl_X2_21 rfl) rfl hk0 (x2 hS hk0) ?_
      refine wg_alen dX2_push_31 (Or.inr (k2 hk0)) ?_
      refine wg_icmp_ge dX2_push_32 rfl (fun c3 => ?_) (fun c3 => ?_)
      · replace h := h.1 c3
        exact wp_vret rfl dX2_push_70 ⟨Nat.le_refl _, Nat.le_refl _⟩ h
      · replace h := h.2 c3
        refine wg_aload_n dX2_push_35 rfl (kn2 hk0) ?_
        refine wg_getRe dX2_push_36 (fl_X2_21 rfl) rfl hk0 (x2 hS hk0) ?_
        refine wg_aload_n dX2_push_39 rfl (kn2 hk0) ?_
        refine wg_getI dX2_push_40 (fl_X2_7 rfl) rfl hk0 ?_
        obtain ⟨o4, h⟩ := h
        have hq5 := (xst' hS (k2 hk0) o4.1 o4.2)
        refine wg_aald dX2_push_43 (k2 hk0) o4.1 o4.2 ?_
        refine wg_ifnull dX2_push_44 (kn5 hq5) ?_
        refine wg_aload_n dX2_push_47 rfl (kn2 hk0) ?_
        refine wg_getRe dX2_push_48 (fl_X2_21 rfl) rfl hk0 (x2 hS hk0) ?_
        refine wg_aload_n dX2_push_51 rfl (kn2 hk0) ?_
        refine wg_getI dX2_push_52 (fl_X2_7 rfl) rfl hk0 ?_
        have hq6 := (xst' hS (k2 hk0) o4.1 o4.2)
        refine wg_aald dX2_push_55 (k2 hk0) o4.1 o4.2 ?_
        refine wg_aload_n dX2_push_56 rfl (kn5 hk1) ?_
        refine wg_callV (I' := mX5_copyFrom) (ci := 5) (np := 1) (d' := d) (q := gR M (p0 + 1) (gI M p0 1).toNat) (as := [vR p1]) (st := []) dX2_push_57 lk_X2_29 ci_X5_copyFrom rfl (Nat.le_of_ble_eq_true rfl) rfl rfl (Nat.le_of_ble_eq_true rfl) hq6 (Nat.le_refl _) ⟨Nat.le_refl _, Nat.le_refl _⟩ h (fun v M7 h => ?_)
        obtain ⟨rfl, hS, h⟩ := h
        refine wg_aload_n dX2_push_60 rfl (kn2 hk0) ?_
        refine wg_dup dX2_push_61 rfl ?_
        refine wg_getI dX2_push_62 (fl_X2_7 rfl) rfl hk0 ?_
        refine wg_iconst dX2_push_65 qiconst_1 ?_
        obtain ⟨o, h⟩ := h
        refine wg_iadd dX2_push_66 o ?_
        refine wg_putI dX2_push_67 (fl_X2_7 rfl) rfl rfl hk0 ?_
        generalize hM : stI M7 p0 1 ((gI M7 p0 1) + 1) = M8
        replace h := h _ hM.symm
        replace hS : ShX M8 := by rw [← hM]; exact hS
        clear hM
        exact wp_vret rfl dX2_push_70 ⟨Nat.le_refl _, Nat.le_refl _⟩ h
  · replace h := h.2 c1
    refine wg_aload_n dX2_push_12 rfl (kn2 hk0) ?_
    refine wg_callV (I' := mX2_forgetOldest) (ci := 2) (np := 0) (d' := d) (q := p0) (as := []) (st := []) dX2_push_13 lk_X2_26 ci_X2_forgetOldest rfl (Nat.le_of_ble_eq_true rfl) rfl rfl (Nat.le_of_ble_eq_true rfl) hk0 (Nat.le_refl _) ⟨Nat.le_refl _, Nat.le_refl _⟩ h (fun v M9 h => ?_)
    obtain ⟨rfl, hS, h⟩ := h
    refine wg_aload_n dX2_push_16 rfl (kn2 hk0) ?_
    refine wg_getI dX2_push_17 (fl_X2_7 rfl) rfl hk0 ?_
    refine wg_if_lt dX2_push_20 rfl (fun c10 => ?_) (fun c10 => ?_)
    · replace h := h.1 c10
      exact wp_vret rfl dX2_push_70 ⟨Nat.le_refl _, Nat.le_refl _⟩ h
    · replace h := h.2 c10
      refine wg_aload_n dX2_push_23 rfl (kn2 hk0) ?_
      refine wg_getI dX2_push_24 (fl_X2_7 rfl) rfl hk0 ?_
      refine wg_aload_n dX2_push_27 rfl (kn2 hk0) ?_
      refine wg_getRe dX2_push_28 (fl_X2_21 rfl) rfl hk0 (x2 hS hk0) ?_
      refine wg_alen dX2_push_31 (Or.inr (k2 hk0)) ?_
      refine wg_icmp_ge dX2_push_32 rfl (fun c11 => ?_) (fun c11 => ?_)
      · replace h := h.1 c11
        exact wp_vret rfl dX2_push_70 ⟨Nat.le_refl _, Nat.le_refl _⟩ h
      · replace h := h.2 c11
        refine wg_aload_n dX2_push_35 rfl (kn2 hk0) ?_
        refine wg_getRe dX2_push_36 (fl_X2_21 rfl) rfl hk0 (x2 hS hk0) ?_
        refine wg_aload_n dX2_push_39 rfl (kn2 hk0) ?_
        refine wg_getI dX2_push_40 (fl_X2_7 rfl) rfl hk0 ?_
        obtain ⟨o12, h⟩ := h
        have hq13 := (xst' hS (k2 hk0) o12.1 o12.2)
        refine wg_aald dX2_push_43 (k2 hk0) o12.1 o12.2 ?_
        refine wg_ifnull dX2_push_44 (kn5 hq13) ?_
        refine wg_aload_n dX2_push_47 rfl (kn2 hk0) ?_
        refine wg_getRe dX2_push_48 (fl_X2_21 rfl) rfl hk0 (x2 hS hk0) ?_
        refine wg_aload_n dX2_push_51 rfl (kn2 hk0) ?_
        refine wg_getI dX2_push_52 (fl_X2_7 rfl) rfl hk0 ?_
        have hq14 := (xst' hS (k2 hk0) o12.1 o12.2)
        refine wg_aald dX2_push_55 (k2 hk0) o12.1 o12.2 ?_
        refine wg_aload_n dX2_push_56 rfl (kn5 hk1) ?_
        refine wg_callV (I' := mX5_copyFrom) (ci := 5) (np := 1) (d' := d) (q := gR M9 (p0 + 1) (gI M9 p0 1).toNat) (as := [vR p1]) (st := []) dX2_push_57 lk_X2_29 ci_X5_copyFrom rfl (Nat.le_of_ble_eq_true rfl) rfl rfl (Nat.le_of_ble_eq_true rfl) hq14 (Nat.le_refl _) ⟨Nat.le_refl _, Nat.le_refl _⟩ h (fun v M15 h => ?_)
        obtain ⟨rfl, hS, h⟩ := h
        refine wg_aload_n dX2_push_60 rfl (kn2 hk0) ?_
        refine wg_dup dX2_push_61 rfl ?_
        refine wg_getI dX2_push_62 (fl_X2_7 rfl) rfl hk0 ?_
        refine wg_iconst dX2_push_65 qiconst_1 ?_
        obtain ⟨o, h⟩ := h
        refine wg_iadd dX2_push_66 o ?_
        refine wg_putI dX2_push_67 (fl_X2_7 rfl) rfl rfl hk0 ?_
        generalize hM : stI M15 p0 1 ((gI M15 p0 1) + 1) = M16
        replace h := h _ hM.symm
        replace hS : ShX M16 := by rw [← hM]; exact hS
        clear hM
        exact wp_vret rfl dX2_push_70 ⟨Nat.le_refl _, Nat.le_refl _⟩ h
set_option maxRecDepth 100000 in
theorem bX2_forgetOldest_0 {G : GG} {d : Nat} {M : MM} {Q : Option AV → MM → Prop} (p0 : Nat) (hk0 : kd p0 = 2) (hS : ShX M) (h :
(1 ≤ (ln (p0 + 1) : Int) →
(((0 : Int) ≤ 0 ∧ (0 : Int) < (ln (p0 + 1) : Int)) ∧
(Wp G mX2_forgetOldest d 0 0 19 [some (vR p0), some (vR (gR M (p0 + 1) 0)), some (vI 1)] [] M 0 0 Q))) ∧
(¬ (1 ≤ (ln (p0 + 1) : Int)) →
(Q none M))) :
  Wp G mX2_forgetOldest d 0 0 0 [some (vR p0), none, none] [] M 0 0 Q := by
  refine wg_aload_n dX2_forgetOldest_0 rfl (kn2 hk0) ?_
  refine wg_getRe dX2_forgetOldest_1 (fl_X2_21 rfl) rfl hk0 (x2 hS hk0) ?_
  refine wg_alen dX2_forgetOldest_4 (Or.inr (k2 hk0)) ?_
  refine wg_iconst dX2_forgetOldest_5 qiconst_1 ?_
  refine wg_icmp_ge dX2_forgetOldest_6 rfl (fun c1 => ?_) (fun c1 => ?_)
  · replace h := h.1 c1
    refine wg_aload_n dX2_forgetOldest_10 rfl (kn2 hk0) ?_
    refine wg_getRe dX2_forgetOldest_11 (fl_X2_21 rfl) rfl hk0 (x2 hS hk0) ?_
    refine wg_iconst dX2_forgetOldest_14 qiconst_0 ?_
    obtain ⟨o2, h⟩ := h
    have hq3 := (xst' (i := 0) hS (k2 hk0) o2.1 o2.2)
    refine wg_aald dX2_forgetOldest_15 (k2 hk0) o2.1 o2.2 ?_
    refine wg_astore_n (L' := [some (vR p0), some (vR (gR M (p0 + 1) 0)), none]) dX2_forgetOldest_16 (Nat.le_of_ble_eq_true rfl) rfl (kn5 hq3) ?_
    refine wg_iconst dX2_forgetOldest_17 qiconst_1 ?_
    refine wg_istore_n (L' := [some (vR p0), some (vR (gR M (p0 + 1) 0)), some (vI 1)]) dX2_forgetOldest_18 (Nat.le_of_ble_eq_true rfl) rfl ?_
    exact h
  · replace h := h.2 c1
    exact wp_vret rfl dX2_forgetOldest_9 ⟨Nat.le_refl _, Nat.le_refl _⟩ h
set_option maxRecDepth 100000 in
theorem bX2_forgetOldest_19 {G : GG} {d : Nat} {M : MM} {Q : Option AV → MM → Prop} (p0 : Nat) (hk0 : kd p0 = 2) (s1 : Nat) (hs1 : kd s1 = 5) (s2 : Int) (hS : ShX M) (h :
((ln (p0 + 1) : Int) ≤ s2 →
(R32 ((ln (p0 + 1) : Int) - 1) ∧
(((0 : Int) ≤ (ln (p0 + 1) : Int) - 1 ∧ ((ln (p0 + 1) : Int) - 1 : Int) < (ln (p0 + 1) : Int)) ∧
(∀ M3 : MM, M3 = stR M (p0 + 1) ((ln (p0 + 1) : Int) - 1).toNat s1 → ShX M3 ∧
(R32 ((ln (p0 + 1) : Int) - 1) ∧
(∀ M4 : MM, M4 = stI M3 p0 1 ((ln (p0 + 1) : Int) - 1) →
(Q none M4))))))) ∧
(¬ ((ln (p0 + 1) : Int) ≤ s2) →
(R32 (s2 - 1) ∧
(((0 : Int) ≤ s2 ∧ (s2 : Int) < (ln (p0 + 1) : Int)) ∧
(((0 : Int) ≤ s2 - 1 ∧ (s2 - 1 : Int) < (ln (p0 + 1) : Int)) ∧
(∀ M8 : MM, M8 = stR M (p0 + 1) (s2 - 1).toNat (gR M (p0 + 1) s2.toNat) → ShX M8 ∧
(R32 (s2 + 1) ∧
(Wp G mX2_forgetOldest d 0 0 19 [some (vR p0), some (vR s1), some (vI (s2 + 1))] [] M8 0 0 Q)))))))) :
  Wp G mX2_forgetOldest d 0 0 19 [some (vR p0), some (vR s1), some (vI s2)] [] M 0 0 Q := by
  refine wg_iload_n dX2_forgetOldest_19 rfl ?_
  refine wg_aload_n dX2_forgetOldest_20 rfl (kn2 hk0) ?_
  refine wg_getRe dX2_forgetOldest_21 (fl_X2_21 rfl) rfl hk0 (x2 hS hk0) ?_
  refine wg_alen dX2_forgetOldest_24 (Or.inr (k2 hk0)) ?_
  refine wg_icmp_ge dX2_forgetOldest_25 rfl (fun c1 => ?_) (fun c1 => ?_)
  · replace h := h.1 c1
    refine wg_aload_n dX2_forgetOldest_48 rfl (kn2 hk0) ?_
    refine wg_getRe dX2_forgetOldest_49 (fl_X2_21 rfl) rfl hk0 (x2 hS hk0) ?_
    refine wg_aload_n dX2_forgetOldest_52 rfl (kn2 hk0) ?_
    refine wg_getRe dX2_forgetOldest_53 (fl_X2_21 rfl) rfl hk0 (x2 hS hk0) ?_
    refine wg_alen dX2_forgetOldest_56 (Or.inr (k2 hk0)) ?_
    refine wg_iconst dX2_forgetOldest_57 qiconst_1 ?_
    obtain ⟨o, h⟩ := h
    refine wg_isub dX2_forgetOldest_58 o ?_
    refine wg_aload_n dX2_forgetOldest_59 rfl (kn5 hs1) ?_
    obtain ⟨o2, h⟩ := h
    refine wg_aast dX2_forgetOldest_60 (k2 hk0) o2.1 o2.2 hs1 ?_
    generalize hM : stR M (p0 + 1) ((ln (p0 + 1) : Int) - 1).toNat s1 = M3
    obtain ⟨hS, h⟩ := h _ hM.symm
    clear hM
    refine wg_aload_n dX2_forgetOldest_61 rfl (kn2 hk0) ?_
    refine wg_aload_n dX2_forgetOldest_62 rfl (kn2 hk0) ?_
    refine wg_getRe dX2_forgetOldest_63 (fl_X2_21 rfl) rfl hk0 (x2 hS hk0) ?_
    refine wg_alen dX2_forgetOldest_66 (Or.inr (k2 hk0)) ?_
    refine wg_iconst dX2_forgetOldest_67 qiconst_1 ?_
    obtain ⟨o, h⟩ := h
    refine wg_isub dX2_forgetOldest_68 o ?_
    refine wg_putI dX2_forgetOldest_69 (fl_X2_7 rfl) rfl rfl hk0 ?_
    generalize hM : stI M3 p0 1 ((ln (p0 + 1) : Int) - 1) = M4
    replace h := h _ hM.symm
    replace hS : ShX M4 := by rw [← hM]; exact hS
    clear hM
    exact wp_vret rfl dX2_forgetOldest_72 ⟨Nat.le_refl _, Nat.le_refl _⟩ h
  · replace h := h.2 c1
    refine wg_aload_n dX2_forgetOldest_28 rfl (kn2 hk0) ?_
    refine wg_getRe dX2_forgetOldest_29 (fl_X2_21 rfl) rfl hk0 (x2 hS hk0) ?_
    refine wg_iload_n dX2_forgetOldest_32 rfl ?_
    refine wg_iconst dX2_forgetOldest_33 qiconst_1 ?_
    obtain ⟨o, h⟩ := h
    refine wg_isub dX2_forgetOldest_34 o ?_
    refine wg_aload_n dX2_forgetOldest_35 rfl (kn2 hk0) ?_
    refine wg_getRe dX2_forgetOldest_36 (fl_X2_21 rfl) rfl hk0 (x2 hS hk0) ?_
    refine wg_iload_n dX2_forgetOldest_39 rfl ?_
    obtain ⟨o5, h⟩ := h
    have hq6 := (xst' hS (k2 hk0) o5.1 o5.2)
    refine wg_aald dX2_forgetOldest_40 (k2 hk0) o5.1 o5.2 ?_
    obtain ⟨o7, h⟩ := h
    refine wg_aast dX2_forgetOldest_41 (k2 hk0) o7.1 o7.2 hq6 ?_
    generalize hM : stR M (p0 + 1) (s2 - 1).toNat (gR M (p0 + 1) s2.toNat) = M8
    obtain ⟨hS, h⟩ := h _ hM.symm
    clear hM
    obtain ⟨o, h⟩ := h
    refine wg_iinc (L' := [some (vR p0), some (vR s1), some (vI (s2 + 1))]) dX2_forgetOldest_42 (Nat.le_of_ble_eq_true rfl) rfl rfl o ?_
    refine wg_goto dX2_forgetOldest_45 rfl ?_
    exact h
set_option maxRecDepth 100000 in
theorem bX2_popInto_0 {G : GG} {d : Nat} {M : MM} {Q : Option AV → MM → Prop} (p0 : Nat) (hk0 : kd p0 = 2) (p1 : Nat) (hk1 : kd p1 = 5) (hS : ShX M) (h :
R32 ((gI M p0 1) - 1) ∧
((((gI M p0 1) - 1) < 0 →
(Q (some (vI 0)) M)) ∧
(¬ (((gI M p0 1) - 1) < 0) →
(((ln (p0 + 1) : Int) ≤ ((gI M p0 1) - 1) →
(Q (some (vI 0)) M)) ∧
(¬ ((ln (p0 + 1) : Int) ≤ ((gI M p0 1) - 1)) →
(((0 : Int) ≤ (gI M p0 1) - 1 ∧ ((gI M p0 1) - 1 : Int) < (ln (p0 + 1) : Int)) ∧
((Ok G mX5_copyFrom d 0 0 [vR p1, vR (gR M (p0 + 1) ((gI M p0 1) - 1).toNat)] M (fun v M6 => v = none ∧ ShX M6 ∧ 
(∀ M7 : MM, M7 = stI M6 p0 1 ((gI M p0 1) - 1) →
(Q (some (vI 1)) M7))))))))))) :
  Wp G mX2_popInto (d + 1) 0 0 0 [some (vR p0), some (vR p1), none] [] M 0 0 Q := by
  refine wg_aload_n dX2_popInto_0 rfl (kn2 hk0) ?_
  refine wg_getI dX2_popInto_1 (fl_X2_7 rfl) rfl hk0 ?_
  refine wg_iconst dX2_popInto_4 qiconst_1 ?_
  obtain ⟨o, h⟩ := h
  refine wg_isub dX2_popInto_5 o ?_
  refine wg_istore_n (L' := [some (vR p0), some (vR p1), some (vI ((gI M p0 1) - 1))]) dX2_popInto_6 (Nat.le_of_ble_eq_true rfl) rfl ?_
  refine wg_iload_n dX2_popInto_7 rfl ?_
  refine wg_if_lt dX2_popInto_8 rfl (fun c1 => ?_) (fun c1 => ?_)
  · replace h := h.1 c1
    refine wg_iconst dX2_popInto_29 qiconst_0 ?_
    exact wp_zret rfl dX2_popInto_30 ⟨Nat.le_refl _, Nat.le_refl _⟩ (Or.inl rfl) h
  · replace h := h.2 c1
    refine wg_iload_n dX2_popInto_11 rfl ?_
    refine wg_aload_n dX2_popInto_12 rfl (kn2 hk0) ?_
    refine wg_getRe dX2_popInto_13 (fl_X2_21 rfl) rfl hk0 (x2 hS hk0) ?_
    refine wg_alen dX2_popInto_16 (Or.inr (k2 hk0)) ?_
    refine wg_icmp_ge dX2_popInto_17 rfl (fun c2 => ?_) (fun c2 => ?_)
    · replace h := h.1 c2
      refine wg_iconst dX2_popInto_29 qiconst_0 ?_
      exact wp_zret rfl dX2_popInto_30 ⟨Nat.le_refl _, Nat.le_refl _⟩ (Or.inl rfl) h
    · replace h := h.2 c2
      refine wg_aload_n dX2_popInto_20 rfl (kn2 hk0) ?_
      refine wg_getRe dX2_popInto_21 (fl_X2_21 rfl) rfl hk0 (x2 hS hk0) ?_
      refine wg_iload_n dX2_popInto_24 rfl ?_
      obtain ⟨o3, h⟩ := h
      have hq4 := (xst' hS (k2 hk0) o3.1 o3.2)
      refine wg_aald dX2_popInto_25 (k2 hk0) o3.1 o3.2 ?_
      refine wg_ifnonnull dX2_popInto_26 rfl (kn5 hq4) ?_
      refine wg_aload_n dX2_popInto_31 rfl (kn5 hk1) ?_
      refine wg_aload_n dX2_popInto_32 rfl (kn2 hk0) ?_
      refine wg_getRe dX2_popInto_33 (fl_X2_21 rfl) rfl hk0 (x2 hS hk0) ?_
      refine wg_iload_n dX2_popInto_36 rfl ?_
      have hq5 := (xst' hS (k2 hk0) o3.1 o3.2)
      refine wg_aald dX2_popInto_37 (k2 hk0) o3.1 o3.2 ?_
      refine wg_callV (I' := mX5_copyFrom) (ci := 5) (np := 1) (d' := d) (q := p1) (as := [vR (gR M (p0 + 1) ((gI M p0 1) - 1).toNat)]) (st := []) dX2_popInto_38 lk_X2_29 ci_X5_copyFrom rfl (Nat.le_of_ble_eq_true rfl) rfl rfl (Nat.le_of_ble_eq_true rfl) hk1 (Nat.le_refl _) ⟨Nat.le_refl _, Nat.le_refl _⟩ h (fun v M6 h => ?_)
      obtain ⟨rfl, hS, h⟩ := h
      refine wg_aload_n dX2_popInto_41 rfl (kn2 hk0) ?_
      refine wg_iload_n dX2_popInto_42 rfl ?_
      refine wg_putI dX2_popInto_43 (fl_X2_7 rfl) rfl rfl hk0 ?_
      generalize hM : stI M6 p0 1 ((gI M p0 1) - 1) = M7
      replace h := h _ hM.symm
      replace hS : ShX M7 := by rw [← hM]; exact hS
      clear hM
      refine wg_iconst dX2_popInto_46 qiconst_1 ?_
      exact wp_zret rfl dX2_popInto_47 ⟨Nat.le_refl _, Nat.le_refl _⟩ (Or.inr rfl) h
set_option maxRecDepth 100000 in
theorem bX4_readInto_0 {G : GG} {d : Nat} {M : MM} {Q : Option AV → MM → Prop} (p1 : Nat) (hk1 : kd p1 = 7) (hS : ShX M) (h :
Ok G mX7_clear d 0 0 [vR p1] M (fun v M1 => v = none ∧ ShX M1 ∧ 
(∀ M2 : MM, M2 = stI M1 4 2 0 →
(Wp G mX4_readInto (d + 1) 0 0 11 [some (vR 4), some (vR p1), some (vI 0), none] [] M2 0 0 Q)))) :
  Wp G mX4_readInto (d + 1) 0 0 0 [some (vR 4), some (vR p1), none, none] [] M 0 0 Q := by
  refine wg_aload_n dX4_readInto_0 rfl (kn7 hk1) ?_
  refine wg_callV (I' := mX7_clear) (ci := 7) (np := 0) (d' := d) (q := p1) (as := []) (st := []) dX4_readInto_1 lk_X4_23 ci_X7_clear rfl (Nat.le_of_ble_eq_true rfl) rfl rfl (Nat.le_of_ble_eq_true rfl) hk1 (Nat.le_refl _) ⟨Nat.le_refl _, Nat.le_refl _⟩ h (fun v M1 h => ?_)
  obtain ⟨rfl, hS, h⟩ := h
  refine wg_aload_n dX4_readInto_4 rfl (Nat.succ_ne_zero _) ?_
  refine wg_iconst dX4_readInto_5 qiconst_0 ?_
  refine wg_putI dX4_readInto_6 (fl_X4_15 rfl) rfl rfl rfl ?_
  generalize hM : stI M1 4 2 0 = M2
  replace h := h _ hM.symm
  replace hS : ShX M2 := by rw [← hM]; exact hS
  clear hM
  refine wg_iconst dX4_readInto_9 qiconst_0 ?_
  refine wg_istore_n (L' := [some (vR 4), some (vR p1), some (vI 0), none]) dX4_readInto_10 (Nat.le_of_ble_eq_true rfl) rfl ?_
  exact h
set_option maxRecDepth 100000 in
theorem bX4_readInto_11 {G : GG} {d : Nat} {M : MM} {Q : Option AV → MM → Prop} (p1 : Nat) (hk1 : kd p1 = 7) (s2 : Int) (hS : ShX M) (h :
(200 ≤ s2 →
(Q (some (vI (-4))) M)) ∧
(¬ (200 ≤ s2) →
(Ok G mX1_size d 0 0 [vR 2] M (fun v M2 => ∃ r3 : Int, v = some (vI r3) ∧ ShX M2 ∧ 
((r3 ≤ (gI M 4 2) →
(Q (some (vI (-4))) M2)) ∧
(¬ (r3 ≤ (gI M 4 2)) →
(Ok G mX4_readItem d 0 0 [vR 4, vR p1] M2 (fun v M5 => ∃ r6 : Int, v = some (vI r6) ∧ ShX M5 ∧ 
((r6 ≠ 0 →
(R32 (s2 + 1) ∧
(Wp G mX4_readInto (d + 1) 0 0 11 [some (vR 4), some (vR p1), some (vI (s2 + 1)), none] [] M5 0 0 Q))) ∧
(r6 = 0 →
(Q (some (vI (gI M2 4 2))) M5))))))))))) :
  Wp G mX4_readInto (d + 1) 0 0 11 [some (vR 4), some (vR p1), some (vI s2), none] [] M 0 0 Q := by
  refine wg_iload_n dX4_readInto_11 rfl ?_
  refine wg_sipush dX4_readInto_12 qsipush_200 ?_
  refine wg_icmp_ge dX4_readInto_15 rfl (fun c1 => ?_) (fun c1 => ?_)
  · replace h := h.1 c1
    refine wg_bipush dX4_readInto_53 qbipush_m4 ?_
    exact wp_iret rfl dX4_readInto_55 ⟨Nat.le_refl _, Nat.le_refl _⟩ h
  · replace h := h.2 c1
    refine wg_aload_n dX4_readInto_18 rfl (Nat.succ_ne_zero _) ?_
    refine wg_getI dX4_readInto_19 (fl_X4_15 rfl) rfl rfl ?_
    refine wg_aload_n dX4_readInto_22 rfl (Nat.succ_ne_zero _) ?_
    refine wg_getRe dX4_readInto_23 (fl_X4_19 rfl) rfl rfl hS.2.1.2.1 ?_
    refine wg_callV (I' := mX1_size) (ci := 1) (np := 0) (d' := d) (q := 2) (as := []) (st := [vI (gI M 4 2)]) dX4_readInto_26 lk_X4_30 ci_X1_size rfl (Nat.le_of_ble_eq_true rfl) rfl rfl (Nat.le_of_ble_eq_true rfl) rfl (Nat.le_refl _) ⟨Nat.le_refl _, Nat.le_refl _⟩ h (fun v M2 h => ?_)
    obtain ⟨r3, rfl, hS, h⟩ := h
    refine wg_icmp_ge dX4_readInto_29 rfl (fun c4 => ?_) (fun c4 => ?_)
    · replace h := h.1 c4
      refine wg_bipush dX4_readInto_53 qbipush_m4 ?_
      exact wp_iret rfl dX4_readInto_55 ⟨Nat.le_refl _, Nat.le_refl _⟩ h
    · replace h := h.2 c4
      refine wg_aload_n dX4_readInto_32 rfl (Nat.succ_ne_zero _) ?_
      refine wg_getI dX4_readInto_33 (fl_X4_15 rfl) rfl rfl ?_
      refine wg_istore_n (L' := [some (vR 4), some (vR p1), some (vI s2), some (vI (gI M2 4 2))]) dX4_readInto_36 (Nat.le_of_ble_eq_true rfl) rfl ?_
      refine wg_aload_n dX4_readInto_37 rfl (Nat.succ_ne_zero _) ?_
      refine wg_aload_n dX4_readInto_38 rfl (kn7 hk1) ?_
      refine wg_callV (I' := mX4_readItem) (ci := 4) (np := 1) (d' := d) (q := 4) (as := [vR p1]) (st := []) dX4_readInto_39 lk_X4_34 ci_X4_readItem rfl (Nat.le_of_ble_eq_true rfl) rfl rfl (Nat.le_of_ble_eq_true rfl) rfl (Nat.le_refl _) ⟨Nat.le_refl _, Nat.le_refl _⟩ h (fun v M5 h => ?_)
      obtain ⟨r6, rfl, hS, h⟩ := h
      refine wg_if_ne dX4_readInto_42 rfl (fun c7 => ?_) (fun c7 => ?_)
      · replace h := h.1 c7
        obtain ⟨o, h⟩ := h
        refine wg_iinc (L' := [some (vR 4), some (vR p1), some (vI (s2 + 1)), some (vI (gI M2 4 2))]) dX4_readInto_47 (Nat.le_of_ble_eq_true rfl) rfl rfl o ?_
        refine wg_goto dX4_readInto_50 rfl ?_
        refine wg_weak [true, true, true, false] rfl ?_
        exact h
      · replace h := h.2 c7
        refine wg_iload_n dX4_readInto_45 rfl ?_
        exact wp_iret rfl dX4_readInto_46 ⟨Nat.le_refl _, Nat.le_refl _⟩ h
set_option maxRecDepth 100000 in
theorem bX4_readItem_0 {G : GG} {d : Nat} {M : MM} {Q : Option AV → MM → Prop} (p1 : Nat) (hk1 : kd p1 = 7) (hS : ShX M) (h :
Ok G mX1_signAt d 0 0 [vR 2, vI (gI M 4 2)] M (fun v M1 => ∃ r2 : Int, v = some (vI r2) ∧ ShX M1 ∧ 
(Ok G mX4_numbersBehind d 0 0 [vI r2] M1 (fun v M3 => ∃ r4 : Int, v = some (vI r4) ∧ ShX M3 ∧ 
((r4 ≠ 0 →
(R32 ((gI M3 4 2) + 1) ∧
(∀ M6 : MM, M6 = stI M3 4 2 ((gI M3 4 2) + 1) →
(Wp G mX4_readItem (d + 1) 0 0 36 [some (vR 4), some (vR p1), some (vI r2), some (vI r4), some (vI 0), none, none] [] M6 0 0 Q)))) ∧
(r4 = 0 →
(Q (some (vI 0)) M3))))))) :
  Wp G mX4_readItem (d + 1) 0 0 0 [some (vR 4), some (vR p1), none, none, none, none, none] [] M 0 0 Q := by
  refine wg_aload_n dX4_readItem_0 rfl (Nat.succ_ne_zero _) ?_
  refine wg_getRe dX4_readItem_1 (fl_X4_19 rfl) rfl rfl hS.2.1.2.1 ?_
  refine wg_aload_n dX4_readItem_4 rfl (Nat.succ_ne_zero _) ?_
  refine wg_getI dX4_readItem_5 (fl_X4_15 rfl) rfl rfl ?_
  refine wg_callV (I' := mX1_signAt) (ci := 1) (np := 1) (d' := d) (q := 2) (as := [vI (gI M 4 2)]) (st := []) dX4_readItem_8 lk_X4_38 ci_X1_signAt rfl (Nat.le_of_ble_eq_true rfl) rfl rfl (Nat.le_of_ble_eq_true rfl) rfl (Nat.le_refl _) ⟨Nat.le_refl _, Nat.le_refl _⟩ h (fun v M1 h => ?_)
  obtain ⟨r2, rfl, hS, h⟩ := h
  refine wg_istore_n (L' := [some (vR 4), some (vR p1), some (vI r2), none, none, none, none]) dX4_readItem_11 (Nat.le_of_ble_eq_true rfl) rfl ?_
  refine wg_iload_n dX4_readItem_12 rfl ?_
  refine wg_callS (I' := mX4_numbersBehind) (np := 1) (d' := d) (as := [vI r2]) (st := []) dX4_readItem_13 lk_X4_42 ci_X4_numbersBehind rfl rfl (Nat.le_of_ble_eq_true rfl) (Nat.le_refl _) ⟨Nat.le_refl _, Nat.le_refl _⟩ h (fun v M3 h => ?_)
  obtain ⟨r4, rfl, hS, h⟩ := h
  refine wg_istore_n (L' := [some (vR 4), some (vR p1), some (vI r2), some (vI r4), none, none, none]) dX4_readItem_16 (Nat.le_of_ble_eq_true rfl) rfl ?_
  refine wg_iload_n dX4_readItem_17 rfl ?_
  refine wg_if_ne dX4_readItem_18 rfl (fun c5 => ?_) (fun c5 => ?_)
  · replace h := h.1 c5
    refine wg_aload_n dX4_readItem_23 rfl (Nat.succ_ne_zero _) ?_
    refine wg_dup dX4_readItem_24 rfl ?_
    refine wg_getI dX4_readItem_25 (fl_X4_15 rfl) rfl rfl ?_
    refine wg_iconst dX4_readItem_28 qiconst_1 ?_
    obtain ⟨o, h⟩ := h
    refine wg_iadd dX4_readItem_29 o ?_
    refine wg_putI dX4_readItem_30 (fl_X4_15 rfl) rfl rfl rfl ?_
    generalize hM : stI M3 4 2 ((gI M3 4 2) + 1) = M6
    replace h := h _ hM.symm
    replace hS : ShX M6 := by rw [← hM]; exact hS
    clear hM
    refine wg_iconst dX4_readItem_33 qiconst_0 ?_
    refine wg_istore (L' := [some (vR 4), some (vR p1), some (vI r2), some (vI r4), some (vI 0), none, none]) dX4_readItem_34 (Nat.le_of_ble_eq_true rfl) rfl ?_
    exact h
  · replace h := h.2 c5
    refine wg_iconst dX4_readItem_21 qiconst_0 ?_
    exact wp_zret rfl dX4_readItem_22 ⟨Nat.le_refl _, Nat.le_refl _⟩ (Or.inl rfl) h
set_option maxRecDepth 100000 in
theorem bX4_readItem_36 {G : GG} {d : Nat} {M : MM} {Q : Option AV → MM → Prop} (p1 : Nat) (hk1 : kd p1 = 7) (s2 : Int) (s3 : Int) (s4 : Int) (hS : ShX M) (h :
(s3 ≤ s4 →
(((((Ok G mX7_take d 0 0 [vR p1, vI s2, vI (gI M 5 0), vI (gI M 5 1), vI (gI M 5 2), vI (gI M 5 3)] M (fun v M2 => ∃ r3 : Int, v = some (vI r3) ∧ ShX M2 ∧ 
((r3 = 0 ∨ r3 = 1) ∧ Q (some (vI r3)) M2)))))))) ∧
(¬ (s3 ≤ s4) →
((4 ≤ s4 →
(((((Ok G mX7_take d 0 0 [vR p1, vI s2, vI (gI M 5 0), vI (gI M 5 1), vI (gI M 5 2), vI (gI M 5 3)] M (fun v M5 => ∃ r6 : Int, v = some (vI r6) ∧ ShX M5 ∧ 
((r6 = 0 ∨ r6 = 1) ∧ Q (some (vI r6)) M5)))))))) ∧
(¬ (4 ≤ s4) →
(Ok G mX4_readNumber d 0 0 [vR 4] M (fun v M7 => ∃ r8 : Int, v = some (vI r8) ∧ ShX M7 ∧ 
(R32 (s3 - 1) ∧
((r8 < 0 →
(Q (some (vI 0)) M7)) ∧
(¬ (r8 < 0) →
(Ok G mX1_signAt d 0 0 [vR 2, vI (gI M7 4 2)] M7 (fun v M11 => ∃ r12 : Int, v = some (vI r12) ∧ ShX M11 ∧ 
((r12 = (if (s3 - 1) ≤ s4 then (59 : Int) else 44) →
(((0 : Int) ≤ s4 ∧ (s4 : Int) < 4) ∧
(∀ M15 : MM, M15 = stI M11 5 s4.toNat r8 →
(R32 ((gI M15 4 2) + 1) ∧
(∀ M16 : MM, M16 = stI M15 4 2 ((gI M15 4 2) + 1) →
(R32 (s4 + 1) ∧
(Wp G mX4_readItem (d + 1) 0 0 36 [some (vR 4), some (vR p1), some (vI s2), some (vI s3), some (vI (s4 + 1)), none, none] [] M16 0 0 Q))))))) ∧
(¬ (r12 = (if (s3 - 1) ≤ s4 then (59 : Int) else 44)) →
(Q (some (vI 0)) M11)))))))))))))) :
  Wp G mX4_readItem (d + 1) 0 0 36 [some (vR 4), some (vR p1), some (vI s2), some (vI s3), some (vI s4), none, none] [] M 0 0 Q := by
  refine wg_iload dX4_readItem_36 rfl ?_
  refine wg_iload_n dX4_readItem_38 rfl ?_
  refine wg_icmp_ge dX4_readItem_39 rfl (fun c1 => ?_) (fun c1 => ?_)
  · replace h := h.1 c1
    refine wg_aload_n dX4_readItem_119 rfl (kn7 hk1) ?_
    refine wg_iload_n dX4_readItem_120 rfl ?_
    refine wg_aload_n dX4_readItem_121 rfl (Nat.succ_ne_zero _) ?_
    refine wg_getRe dX4_readItem_122 (fl_X4_11 rfl) rfl rfl hS.2.1.2.2.1 ?_
    refine wg_iconst dX4_readItem_125 qiconst_0 ?_
    refine wg_iald dX4_readItem_126 rfl (by decide) (by decide) ?_
    refine wg_aload_n dX4_readItem_127 rfl (Nat.succ_ne_zero _) ?_
    refine wg_getRe dX4_readItem_128 (fl_X4_11 rfl) rfl rfl hS.2.1.2.2.1 ?_
    refine wg_iconst dX4_readItem_131 qiconst_1 ?_
    refine wg_iald dX4_readItem_132 rfl (by decide) (by decide) ?_
    refine wg_aload_n dX4_readItem_133 rfl (Nat.succ_ne_zero _) ?_
    refine wg_getRe dX4_readItem_134 (fl_X4_11 rfl) rfl rfl hS.2.1.2.2.1 ?_
    refine wg_iconst dX4_readItem_137 qiconst_2 ?_
    refine wg_iald dX4_readItem_138 rfl (by decide) (by decide) ?_
    refine wg_aload_n dX4_readItem_139 rfl (Nat.succ_ne_zero _) ?_
    refine wg_getRe dX4_readItem_140 (fl_X4_11 rfl) rfl rfl hS.2.1.2.2.1 ?_
    refine wg_iconst dX4_readItem_143 qiconst_3 ?_
    refine wg_iald dX4_readItem_144 rfl (by decide) (by decide) ?_
    refine wg_callV (I' := mX7_take) (ci := 7) (np := 5) (d' := d) (q := p1) (as := [vI s2, vI (gI M 5 0), vI (gI M 5 1), vI (gI M 5 2), vI (gI M 5 3)]) (st := []) dX4_readItem_145 lk_X4_48 ci_X7_take rfl (Nat.le_of_ble_eq_true rfl) rfl rfl (Nat.le_of_ble_eq_true rfl) hk1 (Nat.le_refl _) ⟨Nat.le_refl _, Nat.le_refl _⟩ h (fun v M2 h => ?_)
    obtain ⟨r3, rfl, hS, h⟩ := h
    obtain ⟨o, h⟩ := h
    exact wp_zret rfl dX4_readItem_148 ⟨Nat.le_refl _, Nat.le_refl _⟩ o h
  · replace h := h.2 c1
    refine wg_iload dX4_readItem_42 rfl ?_
    refine wg_iconst dX4_readItem_44 qiconst_4 ?_
    refine wg_icmp_ge dX4_readItem_45 rfl (fun c4 => ?_) (fun c4 => ?_)
    · replace h := h.1 c4
      refine wg_aload_n dX4_readItem_119 rfl (kn7 hk1) ?_
      refine wg_iload_n dX4_readItem_120 rfl ?_
      refine wg_aload_n dX4_readItem_121 rfl (Nat.succ_ne_zero _) ?_
      refine wg_getRe dX4_readItem_122 (fl_X4_11 rfl) rfl rfl hS.2.1.2.2.1 ?_
      refine wg_iconst dX4_readItem_125 qiconst_0 ?_
      refine wg_iald dX4_readItem_126 rfl (by decide) (by decide) ?_
      refine wg_aload_n dX4_readItem_127 rfl (Nat.succ_ne_zero _) ?_
      refine wg_getRe dX4_readItem_128 (fl_X4_11 rfl) rfl rfl hS.2.1.2.2.1 ?_
      refine wg_iconst dX4_readItem_131 qiconst_1 ?_
      refine wg_iald dX4_readItem_132 rfl (by decide) (by decide) ?_
      refine wg_aload_n dX4_readItem_133 rfl (Nat.succ_ne_zero _) ?_
      refine wg_getRe dX4_readItem_134 (fl_X4_11 rfl) rfl rfl hS.2.1.2.2.1 ?_
      refine wg_iconst dX4_readItem_137 qiconst_2 ?_
      refine wg_iald dX4_readItem_138 rfl (by decide) (by decide) ?_
      refine wg_aload_n dX4_readItem_139 rfl (Nat.succ_ne_zero _) ?_
      refine wg_getRe dX4_readItem_140 (fl_X4_11 rfl) rfl rfl hS.2.1.2.2.1 ?_
      refine wg_iconst dX4_readItem_143 qiconst_3 ?_
      refine wg_iald dX4_readItem_144 rfl (by decide) (by decide) ?_
      refine wg_callV (I' := mX7_take) (ci := 7) (np := 5) (d' := d) (q := p1) (as := [vI s2, vI (gI M 5 0), vI (gI M 5 1), vI (gI M 5 2), vI (gI M 5 3)]) (st := []) dX4_readItem_145 lk_X4_48 ci_X7_take rfl (Nat.le_of_ble_eq_true rfl) rfl rfl (Nat.le_of_ble_eq_true rfl) hk1 (Nat.le_refl _) ⟨Nat.le_refl _, Nat.le_refl _⟩ h (fun v M5 h => ?_)
      obtain ⟨r6, rfl, hS, h⟩ := h
      obtain ⟨o, h⟩ := h
      exact wp_zret rfl dX4_readItem_148 ⟨Nat.le_refl _, Nat.le_refl _⟩ o h
    · replace h := h.2 c4
      refine wg_aload_n dX4_readItem_48 rfl (Nat.succ_ne_zero _) ?_
      refine wg_callV (I' := mX4_readNumber) (ci := 4) (np := 0) (d' := d) (q := 4) (as := []) (st := []) dX4_readItem_49 lk_X4_45 ci_X4_readNumber rfl (Nat.le_of_ble_eq_true rfl) rfl rfl (Nat.le_of_ble_eq_true rfl) rfl (Nat.le_refl _) ⟨Nat.le_refl _, Nat.le_refl _⟩ h (fun v M7 h => ?_)
      obtain ⟨r8, rfl, hS, h⟩ := h
      refine wg_istore (L' := [some (vR 4), some (vR p1), some (vI s2), some (vI s3), some (vI s4), some (vI r8), none]) dX4_readItem_52 (Nat.le_of_ble_eq_true rfl) rfl ?_
      refine wg_iload dX4_readItem_54 rfl ?_
      refine wg_iload_n dX4_readItem_56 rfl ?_
      refine wg_iconst dX4_readItem_57 qiconst_1 ?_
      obtain ⟨o, h⟩ := h
      refine wg_isub dX4_readItem_58 o ?_
      have hJ17 : Wp G mX4_readItem (d + 1) 0 0 69 [some (vR 4), some (vR p1), some (vI s2), some (vI s3), some (vI s4), some (vI r8), none] [vI (if (s3 - 1) ≤ s4 then (59 : Int) else 44)] M7 0 0 Q := by
        refine wg_istore (L' := [some (vR 4), some (vR p1), some (vI s2), some (vI s3), some (vI s4), some (vI r8), some (vI (if (s3 - 1) ≤ s4 then (59 : Int) else 44))]) dX4_readItem_69 (Nat.le_of_ble_eq_true rfl) rfl ?_
        refine wg_iload dX4_readItem_71 rfl ?_
        refine wg_if_lt dX4_readItem_73 rfl (fun c10 => ?_) (fun c10 => ?_)
        · replace h := h.1 c10
          refine wg_iconst dX4_readItem_92 qiconst_0 ?_
          exact wp_zret rfl dX4_readItem_93 ⟨Nat.le_refl _, Nat.le_refl _⟩ (Or.inl rfl) h
        · replace h := h.2 c10
          refine wg_aload_n dX4_readItem_76 rfl (Nat.succ_ne_zero _) ?_
          refine wg_getRe dX4_readItem_77 (fl_X4_19 rfl) rfl rfl hS.2.1.2.1 ?_
          refine wg_aload_n dX4_readItem_80 rfl (Nat.succ_ne_zero _) ?_
          refine wg_getI dX4_readItem_81 (fl_X4_15 rfl) rfl rfl ?_
          refine wg_callV (I' := mX1_signAt) (ci := 1) (np := 1) (d' := d) (q := 2) (as := [vI (gI M7 4 2)]) (st := []) dX4_readItem_84 lk_X4_38 ci_X1_signAt rfl (Nat.le_of_ble_eq_true rfl) rfl rfl (Nat.le_of_ble_eq_true rfl) rfl (Nat.le_refl _) ⟨Nat.le_refl _, Nat.le_refl _⟩ h (fun v M11 h => ?_)
          obtain ⟨r12, rfl, hS, h⟩ := h
          refine wg_iload dX4_readItem_87 rfl ?_
          refine wg_icmp_eq dX4_readItem_89 rfl (fun c13 => ?_) (fun c13 => ?_)
          · replace h := h.1 c13
            refine wg_aload_n dX4_readItem_94 rfl (Nat.succ_ne_zero _) ?_
            refine wg_getRe dX4_readItem_95 (fl_X4_11 rfl) rfl rfl hS.2.1.2.2.1 ?_
            refine wg_iload dX4_readItem_98 rfl ?_
            refine wg_iload dX4_readItem_100 rfl ?_
            obtain ⟨o14, h⟩ := h
            refine wg_iast dX4_readItem_102 rfl o14.1 o14.2 ?_
            generalize hM : stI M11 5 s4.toNat r8 = M15
            replace h := h _ hM.symm
            replace hS : ShX M15 := by rw [← hM]; exact hS
            clear hM
            refine wg_aload_n dX4_readItem_103 rfl (Nat.succ_ne_zero _) ?_
            refine wg_dup dX4_readItem_104 rfl ?_
            refine wg_getI dX4_readItem_105 (fl_X4_15 rfl) rfl rfl ?_
            refine wg_iconst dX4_readItem_108 qiconst_1 ?_
            obtain ⟨o, h⟩ := h
            refine wg_iadd dX4_readItem_109 o ?_
            refine wg_putI dX4_readItem_110 (fl_X4_15 rfl) rfl rfl rfl ?_
            generalize hM : stI M15 4 2 ((gI M15 4 2) + 1) = M16
            replace h := h _ hM.symm
            replace hS : ShX M16 := by rw [← hM]; exact hS
            clear hM
            obtain ⟨o, h⟩ := h
            refine wg_iinc (L' := [some (vR 4), some (vR p1), some (vI s2), some (vI s3), some (vI (s4 + 1)), some (vI r8), some (vI (if (s3 - 1) ≤ s4 then (59 : Int) else 44))]) dX4_readItem_113 (Nat.le_of_ble_eq_true rfl) rfl rfl o ?_
            refine wg_goto dX4_readItem_116 rfl ?_
            refine wg_weak [true, true, true, true, true, false, false] rfl ?_
            exact h
          · replace h := h.2 c13
            refine wg_iconst dX4_readItem_92 qiconst_0 ?_
            exact wp_zret rfl dX4_readItem_93 ⟨Nat.le_refl _, Nat.le_refl _⟩ (Or.inl rfl) h
      refine wg_icmp_ge dX4_readItem_59 rfl (fun c9 => ?_) (fun c9 => ?_)
      · rw [show (if (s3 - 1) ≤ s4 then (59 : Int) else 44) = 59 from if_pos c9] at hJ17
        refine wg_bipush dX4_readItem_67 qbipush_59 ?_
        exact hJ17
      · rw [show (if (s3 - 1) ≤ s4 then (59 : Int) else 44) = 44 from if_neg c9] at hJ17
        refine wg_bipush dX4_readItem_62 qbipush_44 ?_
        refine wg_goto dX4_readItem_64 rfl ?_
        exact hJ17
set_option maxRecDepth 100000 in
theorem bX4_numbersBehind_0 {G : GG} {d : Nat} {M : MM} {Q : Option AV → MM → Prop} (a0 : Int) (h :
(a0 = 98 →
(Q (some (vI 1)) M)) ∧
(a0 = 112 →
(Q (some (vI 2)) M)) ∧
(a0 = 116 →
(Q (some (vI 2)) M)) ∧
(a0 = 120 →
(Q (some (vI 4)) M)) ∧
(a0 = 121 →
(Q (some (vI 2)) M)) ∧
((¬ a0 = 98 ∧ ¬ a0 = 112 ∧ ¬ a0 = 116 ∧ ¬ a0 = 120 ∧ ¬ a0 = 121) →
(Q (some (vI 0)) M))) :
  Wp G mX4_numbersBehind d 0 0 0 [some (vI a0)] [] M 0 0 Q := by
  refine wg_iload_n dX4_numbersBehind_0 rfl ?_
  by_cases c0 : a0 = 98
  · replace h := h.1 c0
    refine wg_lookup dX4_numbersBehind_1 (by decide) (off := 53) (by rw [c0]; decide) rfl ?_
    refine wg_iconst dX4_numbersBehind_54 qiconst_1 ?_
    exact wp_iret rfl dX4_numbersBehind_55 ⟨Nat.le_refl _, Nat.le_refl _⟩ h
  by_cases c1 : a0 = 112
  · replace h := h.2.1 c1
    refine wg_lookup dX4_numbersBehind_1 (by decide) (off := 51) (by rw [c1]; decide) rfl ?_
    refine wg_iconst dX4_numbersBehind_52 qiconst_2 ?_
    exact wp_iret rfl dX4_numbersBehind_53 ⟨Nat.le_refl _, Nat.le_refl _⟩ h
  by_cases c2 : a0 = 116
  · replace h := h.2.2.1 c2
    refine wg_lookup dX4_numbersBehind_1 (by decide) (off := 51) (by rw [c2]; decide) rfl ?_
    refine wg_iconst dX4_numbersBehind_52 qiconst_2 ?_
    exact wp_iret rfl dX4_numbersBehind_53 ⟨Nat.le_refl _, Nat.le_refl _⟩ h
  by_cases c3 : a0 = 120
  · replace h := h.2.2.2.1 c3
    refine wg_lookup dX4_numbersBehind_1 (by decide) (off := 55) (by rw [c3]; decide) rfl ?_
    refine wg_iconst dX4_numbersBehind_56 qiconst_4 ?_
    exact wp_iret rfl dX4_numbersBehind_57 ⟨Nat.le_refl _, Nat.le_refl _⟩ h
  by_cases c4 : a0 = 121
  · replace h := h.2.2.2.2.1 c4
    refine wg_lookup dX4_numbersBehind_1 (by decide) (off := 51) (by rw [c4]; decide) rfl ?_
    refine wg_iconst dX4_numbersBehind_52 qiconst_2 ?_
    exact wp_iret rfl dX4_numbersBehind_53 ⟨Nat.le_refl _, Nat.le_refl _⟩ h
  replace h := h.2.2.2.2.2 ⟨c0, c1, c2, c3, c4⟩
  refine wg_lookup dX4_numbersBehind_1 (by decide) (off := 57) (off_none (fun q hq => by simp only [List.mem_cons, List.not_mem_nil, or_false] at hq; rcases hq with rfl | rfl | rfl | rfl | rfl <;> assumption)) rfl ?_
  refine wg_iconst dX4_numbersBehind_58 qiconst_0 ?_
  exact wp_iret rfl dX4_numbersBehind_59 ⟨Nat.le_refl _, Nat.le_refl _⟩ h
set_option maxRecDepth 100000 in
theorem bX4_readNumber_0 {G : GG} {d : Nat} {M : MM} {Q : Option AV → MM → Prop} (hS : ShX M) (h :
Ok G mX4_figureAt d 0 0 [vR 4, vI (gI M 4 2)] M (fun v M1 => ∃ r2 : Int, v = some (vI r2) ∧ ShX M1 ∧ 
((0 ≤ r2 →
(R32 ((gI M1 4 2) + 1) ∧
(∀ M4 : MM, M4 = stI M1 4 2 ((gI M1 4 2) + 1) →
(Ok G mX4_figureAt d 0 0 [vR 4, vI (gI M4 4 2)] M4 (fun v M5 => ∃ r6 : Int, v = some (vI r6) ∧ ShX M5 ∧ 
((0 ≤ r6 →
(R32 ((gI M5 4 2) + 1) ∧
(∀ M8 : MM, M8 = stI M5 4 2 ((gI M5 4 2) + 1) →
(R32 (10 * r2) ∧
(R32 ((10 * r2) + r6) ∧
(Q (some (vI ((10 * r2) + r6))) M8)))))) ∧
(¬ (0 ≤ r6) →
(Q (some (vI r2)) M5)))))))) ∧
(¬ (0 ≤ r2) →
(Q (some (vI (-1))) M1))))) :
  Wp G mX4_readNumber (d + 1) 0 0 0 [some (vR 4), none, none] [] M 0 0 Q := by
  refine wg_aload_n dX4_readNumber_0 rfl (Nat.succ_ne_zero _) ?_
  refine wg_aload_n dX4_readNumber_1 rfl (Nat.succ_ne_zero _) ?_
  refine wg_getI dX4_readNumber_2 (fl_X4_15 rfl) rfl rfl ?_
  refine wg_callV (I' := mX4_figureAt) (ci := 4) (np := 1) (d' := d) (q := 4) (as := [vI (gI M 4 2)]) (st := []) dX4_readNumber_5 lk_X4_52 ci_X4_figureAt rfl (Nat.le_of_ble_eq_true rfl) rfl rfl (Nat.le_of_ble_eq_true rfl) rfl (Nat.le_refl _) ⟨Nat.le_refl _, Nat.le_refl _⟩ h (fun v M1 h => ?_)
  obtain ⟨r2, rfl, hS, h⟩ := h
  refine wg_istore_n (L' := [some (vR 4), some (vI r2), none]) dX4_readNumber_8 (Nat.le_of_ble_eq_true rfl) rfl ?_
  refine wg_iload_n dX4_readNumber_9 rfl ?_
  refine wg_if_ge dX4_readNumber_10 rfl (fun c3 => ?_) (fun c3 => ?_)
  · replace h := h.1 c3
    refine wg_aload_n dX4_readNumber_15 rfl (Nat.succ_ne_zero _) ?_
    refine wg_dup dX4_readNumber_16 rfl ?_
    refine wg_getI dX4_readNumber_17 (fl_X4_15 rfl) rfl rfl ?_
    refine wg_iconst dX4_readNumber_20 qiconst_1 ?_
    obtain ⟨o, h⟩ := h
    refine wg_iadd dX4_readNumber_21 o ?_
    refine wg_putI dX4_readNumber_22 (fl_X4_15 rfl) rfl rfl rfl ?_
    generalize hM : stI M1 4 2 ((gI M1 4 2) + 1) = M4
    replace h := h _ hM.symm
    replace hS : ShX M4 := by rw [← hM]; exact hS
    clear hM
    refine wg_aload_n dX4_readNumber_25 rfl (Nat.succ_ne_zero _) ?_
    refine wg_aload_n dX4_readNumber_26 rfl (Nat.succ_ne_zero _) ?_
    refine wg_getI dX4_readNumber_27 (fl_X4_15 rfl) rfl rfl ?_
    refine wg_callV (I' := mX4_figureAt) (ci := 4) (np := 1) (d' := d) (q := 4) (as := [vI (gI M4 4 2)]) (st := []) dX4_readNumber_30 lk_X4_52 ci_X4_figureAt rfl (Nat.le_of_ble_eq_true rfl) rfl rfl (Nat.le_of_ble_eq_true rfl) rfl (Nat.le_refl _) ⟨Nat.le_refl _, Nat.le_refl _⟩ h (fun v M5 h => ?_)
    obtain ⟨r6, rfl, hS, h⟩ := h
    refine wg_istore_n (L' := [some (vR 4), some (vI r2), some (vI r6)]) dX4_readNumber_33 (Nat.le_of_ble_eq_true rfl) rfl ?_
    refine wg_iload_n dX4_readNumber_34 rfl ?_
    refine wg_if_ge dX4_readNumber_35 rfl (fun c7 => ?_) (fun c7 => ?_)
    · replace h := h.1 c7
      refine wg_aload_n dX4_readNumber_40 rfl (Nat.succ_ne_zero _) ?_
      refine wg_dup dX4_readNumber_41 rfl ?_
      refine wg_getI dX4_readNumber_42 (fl_X4_15 rfl) rfl rfl ?_
      refine wg_iconst dX4_readNumber_45 qiconst_1 ?_
      obtain ⟨o, h⟩ := h
      refine wg_iadd dX4_readNumber_46 o ?_
      refine wg_putI dX4_readNumber_47 (fl_X4_15 rfl) rfl rfl rfl ?_
      generalize hM : stI M5 4 2 ((gI M5 4 2) + 1) = M8
      replace h := h _ hM.symm
      replace hS : ShX M8 := by rw [← hM]; exact hS
      clear hM
      refine wg_bipush dX4_readNumber_50 qbipush_10 ?_
      refine wg_iload_n dX4_readNumber_52 rfl ?_
      obtain ⟨o, h⟩ := h
      refine wg_imul dX4_readNumber_53 o ?_
      refine wg_iload_n dX4_readNumber_54 rfl ?_
      obtain ⟨o, h⟩ := h
      refine wg_iadd dX4_readNumber_55 o ?_
      exact wp_iret rfl dX4_readNumber_56 ⟨Nat.le_refl _, Nat.le_refl _⟩ h
    · replace h := h.2 c7
      refine wg_iload_n dX4_readNumber_38 rfl ?_
      exact wp_iret rfl dX4_readNumber_39 ⟨Nat.le_refl _, Nat.le_refl _⟩ h
  · replace h := h.2 c3
    refine wg_iconst dX4_readNumber_13 qiconst_m1 ?_
    exact wp_iret rfl dX4_readNumber_14 ⟨Nat.le_refl _, Nat.le_refl _⟩ h
set_option maxRecDepth 100000 in
theorem bX4_figureAt_0 {G : GG} {d : Nat} {M : MM} {Q : Option AV → MM → Prop} (a1 : Int) (hS : ShX M) (h :
Ok G mX1_signAt d 0 0 [vR 2, vI a1] M (fun v M1 => ∃ r2 : Int, v = some (vI r2) ∧ ShX M1 ∧ 
((r2 < 48 →
(Q (some (vI (-1))) M1)) ∧
(¬ (r2 < 48) →
((57 < r2 →
(Q (some (vI (-1))) M1)) ∧
(¬ (57 < r2) →
(R32 (r2 - 48) ∧
(Q (some (vI (r2 - 48))) M1)))))))) :
  Wp G mX4_figureAt (d + 1) 0 0 0 [some (vR 4), some (vI a1), none] [] M 0 0 Q := by
  refine wg_aload_n dX4_figureAt_0 rfl (Nat.succ_ne_zero _) ?_
  refine wg_getRe dX4_figureAt_1 (fl_X4_19 rfl) rfl rfl hS.2.1.2.1 ?_
  refine wg_iload_n dX4_figureAt_4 rfl ?_
  refine wg_callV (I' := mX1_signAt) (ci := 1) (np := 1) (d' := d) (q := 2) (as := [vI a1]) (st := []) dX4_figureAt_5 lk_X4_38 ci_X1_signAt rfl (Nat.le_of_ble_eq_true rfl) rfl rfl (Nat.le_of_ble_eq_true rfl) rfl (Nat.le_refl _) ⟨Nat.le_refl _, Nat.le_refl _⟩ h (fun v M1 h => ?_)
  obtain ⟨r2, rfl, hS, h⟩ := h
  refine wg_istore_n (L' := [some (vR 4), some (vI a1), some (vI r2)]) dX4_figureAt_8 (Nat.le_of_ble_eq_true rfl) rfl ?_
  refine wg_iload_n dX4_figureAt_9 rfl ?_
  refine wg_bipush dX4_figureAt_10 qbipush_48 ?_
  refine wg_icmp_lt dX4_figureAt_12 rfl (fun c3 => ?_) (fun c3 => ?_)
  · replace h := h.1 c3
    refine wg_iconst dX4_figureAt_28 qiconst_m1 ?_
    exact wp_iret rfl dX4_figureAt_29 ⟨Nat.le_refl _, Nat.le_refl _⟩ h
  · replace h := h.2 c3
    refine wg_iload_n dX4_figureAt_15 rfl ?_
    refine wg_bipush dX4_figureAt_16 qbipush_57 ?_
    refine wg_icmp_gt dX4_figureAt_18 rfl (fun c4 => ?_) (fun c4 => ?_)
    · replace h := h.1 c4
      refine wg_iconst dX4_figureAt_28 qiconst_m1 ?_
      exact wp_iret rfl dX4_figureAt_29 ⟨Nat.le_refl _, Nat.le_refl _⟩ h
    · replace h := h.2 c4
      refine wg_iload_n dX4_figureAt_21 rfl ?_
      refine wg_bipush dX4_figureAt_22 qbipush_48 ?_
      obtain ⟨o, h⟩ := h
      refine wg_isub dX4_figureAt_24 o ?_
      refine wg_goto dX4_figureAt_25 rfl ?_
      exact wp_iret rfl dX4_figureAt_29 ⟨Nat.le_refl _, Nat.le_refl _⟩ h
set_option maxRecDepth 100000 in
theorem bX5_clear_0 {G : GG} {d : Nat} {M : MM} {Q : Option AV → MM → Prop} (p0 : Nat) (hk0 : kd p0 = 5) (hS : ShX M) (h :
∀ M1 : MM, M1 = stI M p0 0 0 →
(Wp G mX5_clear d 0 0 7 [some (vR p0), some (vI 0)] [] M1 0 0 Q)) :
  Wp G mX5_clear d 0 0 0 [some (vR p0), none] [] M 0 0 Q := by
  refine wg_aload_n dX5_clear_0 rfl (kn5 hk0) ?_
  refine wg_iconst dX5_clear_1 qiconst_0 ?_
  refine wg_putI dX5_clear_2 (fl_X5_11 rfl) rfl rfl hk0 ?_
  generalize hM : stI M p0 0 0 = M1
  replace h := h _ hM.symm
  replace hS : ShX M1 := by rw [← hM]; exact hS
  clear hM
  refine wg_iconst dX5_clear_5 qiconst_0 ?_
  refine wg_istore_n (L' := [some (vR p0), some (vI 0)]) dX5_clear_6 (Nat.le_of_ble_eq_true rfl) rfl ?_
  exact h
set_option maxRecDepth 100000 in
theorem bX5_clear_7 {G : GG} {d : Nat} {M : MM} {Q : Option AV → MM → Prop} (p0 : Nat) (hk0 : kd p0 = 5) (s1 : Int) (hS : ShX M) (h :
(4 ≤ s1 →
(Q none M)) ∧
(¬ (4 ≤ s1) →
(((0 : Int) ≤ s1 ∧ (s1 : Int) < 4) ∧
(∀ M3 : MM, M3 = stI M (p0 + 1) s1.toNat 0 →
((∀ M4 : MM, M4 = stI M3 (p0 + 2) s1.toNat 0 →
((∀ M5 : MM, M5 = stI M4 (p0 + 3) s1.toNat 0 →
(R32 (s1 + 1) ∧
(Wp G mX5_clear d 0 0 7 [some (vR p0), some (vI (s1 + 1))] [] M5 0 0 Q)))))))))) :
  Wp G mX5_clear d 0 0 7 [some (vR p0), some (vI s1)] [] M 0 0 Q := by
  refine wg_iload_n dX5_clear_7 rfl ?_
  refine wg_iconst dX5_clear_8 qiconst_4 ?_
  refine wg_icmp_ge dX5_clear_9 rfl (fun c1 => ?_) (fun c1 => ?_)
  · replace h := h.1 c1
    exact wp_vret rfl dX5_clear_39 ⟨Nat.le_refl _, Nat.le_refl _⟩ h
  · replace h := h.2 c1
    refine wg_aload_n dX5_clear_12 rfl (kn5 hk0) ?_
    refine wg_getRe dX5_clear_13 (fl_X5_17 rfl) rfl hk0 (x5 hS hk0 1 (Nat.le_of_ble_eq_true rfl) (Nat.le_of_ble_eq_true rfl)) ?_
    refine wg_iload_n dX5_clear_16 rfl ?_
    refine wg_iconst dX5_clear_17 qiconst_0 ?_
    obtain ⟨o2, h⟩ := h
    refine wg_iast dX5_clear_18 (k5 hk0).1.1 o2.1 (by rw [(k5 hk0).1.2]; exact o2.2) ?_
    generalize hM : stI M (p0 + 1) s1.toNat 0 = M3
    replace h := h _ hM.symm
    replace hS : ShX M3 := by rw [← hM]; exact hS
    clear hM
    refine wg_aload_n dX5_clear_19 rfl (kn5 hk0) ?_
    refine wg_getRe dX5_clear_20 (fl_X5_21 rfl) rfl hk0 (x5 hS hk0 2 (Nat.le_of_ble_eq_true rfl) (Nat.le_of_ble_eq_true rfl)) ?_
    refine wg_iload_n dX5_clear_23 rfl ?_
    refine wg_iconst dX5_clear_24 qiconst_0 ?_
    refine wg_iast dX5_clear_25 (k5 hk0).2.1.1 o2.1 (by rw [(k5 hk0).2.1.2]; exact o2.2) ?_
    generalize hM : stI M3 (p0 + 2) s1.toNat 0 = M4
    replace h := h _ hM.symm
    replace hS : ShX M4 := by rw [← hM]; exact hS
    clear hM
    refine wg_aload_n dX5_clear_26 rfl (kn5 hk0) ?_
    refine wg_getRe dX5_clear_27 (fl_X5_24 rfl) rfl hk0 (x5 hS hk0 3 (Nat.le_of_ble_eq_true rfl) (Nat.le_of_ble_eq_true rfl)) ?_
    refine wg_iload_n dX5_clear_30 rfl ?_
    refine wg_iconst dX5_clear_31 qiconst_0 ?_
    refine wg_iast dX5_clear_32 (k5 hk0).2.2.1 o2.1 (by rw [(k5 hk0).2.2.2]; exact o2.2) ?_
    generalize hM : stI M4 (p0 + 3) s1.toNat 0 = M5
    replace h := h _ hM.symm
    replace hS : ShX M5 := by rw [← hM]; exact hS
    clear hM
    obtain ⟨o, h⟩ := h
    refine wg_iinc (L' := [some (vR p0), some (vI (s1 + 1))]) dX5_clear_33 (Nat.le_of_ble_eq_true rfl) rfl rfl o ?_
    refine wg_goto dX5_clear_36 rfl ?_
    exact h
set_option maxRecDepth 100000 in
theorem bX5_copyFrom_0 {G : GG} {d : Nat} {M : MM} {Q : Option AV → MM → Prop} (p0 : Nat) (hk0 : kd p0 = 5) (p1 : Nat) (hk1 : kd p1 = 5) (hS : ShX M) (h :
∀ M1 : MM, M1 = stI M p0 0 (gI M p1 0) →
(Wp G mX5_copyFrom d 0 0 10 [some (vR p0), some (vR p1), some (vI 0)] [] M1 0 0 Q)) :
  Wp G mX5_copyFrom d 0 0 0 [some (vR p0), some (vR p1), none] [] M 0 0 Q := by
  refine wg_aload_n dX5_copyFrom_0 rfl (kn5 hk0) ?_
  refine wg_aload_n dX5_copyFrom_1 rfl (kn5 hk1) ?_
  refine wg_getI dX5_copyFrom_2 (fl_X5_11 rfl) rfl hk1 ?_
  refine wg_putI dX5_copyFrom_5 (fl_X5_11 rfl) rfl rfl hk0 ?_
  generalize hM : stI M p0 0 (gI M p1 0) = M1
  replace h := h _ hM.symm
  replace hS : ShX M1 := by rw [← hM]; exact hS
  clear hM
  refine wg_iconst dX5_copyFrom_8 qiconst_0 ?_
  refine wg_istore_n (L' := [some (vR p0), some (vR p1), some (vI 0)]) dX5_copyFrom_9 (Nat.le_of_ble_eq_true rfl) rfl ?_
  exact h
set_option maxRecDepth 100000 in
theorem bX5_copyFrom_10 {G : GG} {d : Nat} {M : MM} {Q : Option AV → MM → Prop} (p0 : Nat) (hk0 : kd p0 = 5) (p1 : Nat) (hk1 : kd p1 = 5) (s2 : Int) (hS : ShX M) (h :
(4 ≤ s2 →
(Q none M)) ∧
(¬ (4 ≤ s2) →
(((0 : Int) ≤ s2 ∧ (s2 : Int) < 4) ∧
((∀ M3 : MM, M3 = stI M (p0 + 1) s2.toNat (gI M (p1 + 1) s2.toNat) →
(((∀ M4 : MM, M4 = stI M3 (p0 + 2) s2.toNat (gI M3 (p1 + 2) s2.toNat) →
(((∀ M5 : MM, M5 = stI M4 (p0 + 3) s2.toNat (gI M4 (p1 + 3) s2.toNat) →
(R32 (s2 + 1) ∧
(Wp G mX5_copyFrom d 0 0 10 [some (vR p0), some (vR p1), some (vI (s2 + 1))] [] M5 0 0 Q))))))))))))) :
  Wp G mX5_copyFrom d 0 0 10 [some (vR p0), some (vR p1), some (vI s2)] [] M 0 0 Q := by
  refine wg_iload_n dX5_copyFrom_10 rfl ?_
  refine wg_iconst dX5_copyFrom_11 qiconst_4 ?_
  refine wg_icmp_ge dX5_copyFrom_12 rfl (fun c1 => ?_) (fun c1 => ?_)
  · replace h := h.1 c1
    exact wp_vret rfl dX5_copyFrom_57 ⟨Nat.le_refl _, Nat.le_refl _⟩ h
  · replace h := h.2 c1
    refine wg_aload_n dX5_copyFrom_15 rfl (kn5 hk0) ?_
    refine wg_getRe dX5_copyFrom_16 (fl_X5_17 rfl) rfl hk0 (x5 hS hk0 1 (Nat.le_of_ble_eq_true rfl) (Nat.le_of_ble_eq_true rfl)) ?_
    refine wg_iload_n dX5_copyFrom_19 rfl ?_
    refine wg_aload_n dX5_copyFrom_20 rfl (kn5 hk1) ?_
    refine wg_getRe dX5_copyFrom_21 (fl_X5_17 rfl) rfl hk1 (x5 hS hk1 1 (Nat.le_of_ble_eq_true rfl) (Nat.le_of_ble_eq_true rfl)) ?_
    refine wg_iload_n dX5_copyFrom_24 rfl ?_
    obtain ⟨o2, h⟩ := h
    refine wg_iald dX5_copyFrom_25 (k5 hk1).1.1 o2.1 (by rw [(k5 hk1).1.2]; exact o2.2) ?_
    refine wg_iast dX5_copyFrom_26 (k5 hk0).1.1 o2.1 (by rw [(k5 hk0).1.2]; exact o2.2) ?_
    generalize hM : stI M (p0 + 1) s2.toNat (gI M (p1 + 1) s2.toNat) = M3
    replace h := h _ hM.symm
    replace hS : ShX M3 := by rw [← hM]; exact hS
    clear hM
    refine wg_aload_n dX5_copyFrom_27 rfl (kn5 hk0) ?_
    refine wg_getRe dX5_copyFrom_28 (fl_X5_21 rfl) rfl hk0 (x5 hS hk0 2 (Nat.le_of_ble_eq_true rfl) (Nat.le_of_ble_eq_true rfl)) ?_
    refine wg_iload_n dX5_copyFrom_31 rfl ?_
    refine wg_aload_n dX5_copyFrom_32 rfl (kn5 hk1) ?_
    refine wg_getRe dX5_copyFrom_33 (fl_X5_21 rfl) rfl hk1 (x5 hS hk1 2 (Nat.le_of_ble_eq_true rfl) (Nat.le_of_ble_eq_true rfl)) ?_
    refine wg_iload_n dX5_copyFrom_36 rfl ?_
    refine wg_iald dX5_copyFrom_37 (k5 hk1).2.1.1 o2.1 (by rw [(k5 hk1).2.1.2]; exact o2.2) ?_
    refine wg_iast dX5_copyFrom_38 (k5 hk0).2.1.1 o2.1 (by rw [(k5 hk0).2.1.2]; exact o2.2) ?_
    generalize hM : stI M3 (p0 + 2) s2.toNat (gI M3 (p1 + 2) s2.toNat) = M4
    replace h := h _ hM.symm
    replace hS : ShX M4 := by rw [← hM]; exact hS
    clear hM
    refine wg_aload_n dX5_copyFrom_39 rfl (kn5 hk0) ?_
    refine wg_getRe dX5_copyFrom_40 (fl_X5_24 rfl) rfl hk0 (x5 hS hk0 3 (Nat.le_of_ble_eq_true rfl) (Nat.le_of_ble_eq_true rfl)) ?_
    refine wg_iload_n dX5_copyFrom_43 rfl ?_
    refine wg_aload_n dX5_copyFrom_44 rfl (kn5 hk1) ?_
    refine wg_getRe dX5_copyFrom_45 (fl_X5_24 rfl) rfl hk1 (x5 hS hk1 3 (Nat.le_of_ble_eq_true rfl) (Nat.le_of_ble_eq_true rfl)) ?_
    refine wg_iload_n dX5_copyFrom_48 rfl ?_
    refine wg_iald dX5_copyFrom_49 (k5 hk1).2.2.1 o2.1 (by rw [(k5 hk1).2.2.2]; exact o2.2) ?_
    refine wg_iast dX5_copyFrom_50 (k5 hk0).2.2.1 o2.1 (by rw [(k5 hk0).2.2.2]; exact o2.2) ?_
    generalize hM : stI M4 (p0 + 3) s2.toNat (gI M4 (p1 + 3) s2.toNat) = M5
    replace h := h _ hM.symm
    replace hS : ShX M5 := by rw [← hM]; exact hS
    clear hM
    obtain ⟨o, h⟩ := h
    refine wg_iinc (L' := [some (vR p0), some (vR p1), some (vI (s2 + 1))]) dX5_copyFrom_51 (Nat.le_of_ble_eq_true rfl) rfl rfl o ?_
    refine wg_goto dX5_copyFrom_54 rfl ?_
    exact h
set_option maxRecDepth 100000 in
theorem bX5_isBound_0 {G : GG} {d : Nat} {M : MM} {Q : Option AV → MM → Prop} (p0 : Nat) (hk0 : kd p0 = 5) (a1 : Int) (hS : ShX M) (h :
Ok G mX5_ribbonOf d 0 0 [vR p0, vI a1] M (fun v M1 => ∃ r2 : Int, v = some (vI r2) ∧ ShX M1 ∧ 
((r2 = 0 →
(Q (some (vI 0)) M1)) ∧
(¬ (r2 = 0) →
(Q (some (vI 1)) M1))))) :
  Wp G mX5_isBound (d + 1) 0 0 0 [some (vR p0), some (vI a1)] [] M 0 0 Q := by
  refine wg_aload_n dX5_isBound_0 rfl (kn5 hk0) ?_
  refine wg_iload_n dX5_isBound_1 rfl ?_
  refine wg_callV (I' := mX5_ribbonOf) (ci := 5) (np := 1) (d' := d) (q := p0) (as := [vI a1]) (st := []) dX5_isBound_2 lk_X5_27 ci_X5_ribbonOf rfl (Nat.le_of_ble_eq_true rfl) rfl rfl (Nat.le_of_ble_eq_true rfl) hk0 (Nat.le_refl _) ⟨Nat.le_refl _, Nat.le_refl _⟩ h (fun v M1 h => ?_)
  obtain ⟨r2, rfl, hS, h⟩ := h
  refine wg_if_eq dX5_isBound_5 rfl (fun c3 => ?_) (fun c3 => ?_)
  · replace h := h.1 c3
    refine wg_iconst dX5_isBound_12 qiconst_0 ?_
    exact wp_zret rfl dX5_isBound_13 ⟨Nat.le_refl _, Nat.le_refl _⟩ (Or.inl rfl) h
  · replace h := h.2 c3
    refine wg_iconst dX5_isBound_8 qiconst_1 ?_
    refine wg_goto dX5_isBound_9 rfl ?_
    exact wp_zret rfl dX5_isBound_13 ⟨Nat.le_refl _, Nat.le_refl _⟩ (Or.inr rfl) h
set_option maxRecDepth 100000 in
theorem bX5_ribbonOf_0 {G : GG} {d : Nat} {M : MM} {Q : Option AV → MM → Prop} (p0 : Nat) (hk0 : kd p0 = 5) (a1 : Int) (hS : ShX M) (h :
(a1 < 0 →
(Q (some (vI 0)) M)) ∧
(¬ (a1 < 0) →
((4 ≤ a1 →
(Q (some (vI 0)) M)) ∧
(¬ (4 ≤ a1) →
(((0 : Int) ≤ a1 ∧ (a1 : Int) < 4) ∧
(Q (some (vI (gI M (p0 + 1) a1.toNat))) M)))))) :
  Wp G mX5_ribbonOf d 0 0 0 [some (vR p0), some (vI a1)] [] M 0 0 Q := by
  refine wg_iload_n dX5_ribbonOf_0 rfl ?_
  refine wg_if_lt dX5_ribbonOf_1 rfl (fun c1 => ?_) (fun c1 => ?_)
  · replace h := h.1 c1
    refine wg_iconst dX5_ribbonOf_18 qiconst_0 ?_
    exact wp_iret rfl dX5_ribbonOf_19 ⟨Nat.le_refl _, Nat.le_refl _⟩ h
  · replace h := h.2 c1
    refine wg_iload_n dX5_ribbonOf_4 rfl ?_
    refine wg_iconst dX5_ribbonOf_5 qiconst_4 ?_
    refine wg_icmp_ge dX5_ribbonOf_6 rfl (fun c2 => ?_) (fun c2 => ?_)
    · replace h := h.1 c2
      refine wg_iconst dX5_ribbonOf_18 qiconst_0 ?_
      exact wp_iret rfl dX5_ribbonOf_19 ⟨Nat.le_refl _, Nat.le_refl _⟩ h
    · replace h := h.2 c2
      refine wg_aload_n dX5_ribbonOf_9 rfl (kn5 hk0) ?_
      refine wg_getRe dX5_ribbonOf_10 (fl_X5_17 rfl) rfl hk0 (x5 hS hk0 1 (Nat.le_of_ble_eq_true rfl) (Nat.le_of_ble_eq_true rfl)) ?_
      refine wg_iload_n dX5_ribbonOf_13 rfl ?_
      obtain ⟨o3, h⟩ := h
      refine wg_iald dX5_ribbonOf_14 (k5 hk0).1.1 o3.1 (by rw [(k5 hk0).1.2]; exact o3.2) ?_
      refine wg_goto dX5_ribbonOf_15 rfl ?_
      exact wp_iret rfl dX5_ribbonOf_19 ⟨Nat.le_refl _, Nat.le_refl _⟩ h
set_option maxRecDepth 100000 in
theorem bX5_ageOf_0 {G : GG} {d : Nat} {M : MM} {Q : Option AV → MM → Prop} (p0 : Nat) (hk0 : kd p0 = 5) (a1 : Int) (hS : ShX M) (h :
(a1 < 0 →
(Q (some (vI 0)) M)) ∧
(¬ (a1 < 0) →
((4 ≤ a1 →
(Q (some (vI 0)) M)) ∧
(¬ (4 ≤ a1) →
(((0 : Int) ≤ a1 ∧ (a1 : Int) < 4) ∧
(Q (some (vI (gI M (p0 + 2) a1.toNat))) M)))))) :
  Wp G mX5_ageOf d 0 0 0 [some (vR p0), some (vI a1)] [] M 0 0 Q := by
  refine wg_iload_n dX5_ageOf_0 rfl ?_
  refine wg_if_lt dX5_ageOf_1 rfl (fun c1 => ?_) (fun c1 => ?_)
  · replace h := h.1 c1
    refine wg_iconst dX5_ageOf_18 qiconst_0 ?_
    exact wp_iret rfl dX5_ageOf_19 ⟨Nat.le_refl _, Nat.le_refl _⟩ h
  · replace h := h.2 c1
    refine wg_iload_n dX5_ageOf_4 rfl ?_
    refine wg_iconst dX5_ageOf_5 qiconst_4 ?_
    refine wg_icmp_ge dX5_ageOf_6 rfl (fun c2 => ?_) (fun c2 => ?_)
    · replace h := h.1 c2
      refine wg_iconst dX5_ageOf_18 qiconst_0 ?_
      exact wp_iret rfl dX5_ageOf_19 ⟨Nat.le_refl _, Nat.le_refl _⟩ h
    · replace h := h.2 c2
      refine wg_aload_n dX5_ageOf_9 rfl (kn5 hk0) ?_
      refine wg_getRe dX5_ageOf_10 (fl_X5_21 rfl) rfl hk0 (x5 hS hk0 2 (Nat.le_of_ble_eq_true rfl) (Nat.le_of_ble_eq_true rfl)) ?_
      refine wg_iload_n dX5_ageOf_13 rfl ?_
      obtain ⟨o3, h⟩ := h
      refine wg_iald dX5_ageOf_14 (k5 hk0).2.1.1 o3.1 (by rw [(k5 hk0).2.1.2]; exact o3.2) ?_
      refine wg_goto dX5_ageOf_15 rfl ?_
      exact wp_iret rfl dX5_ageOf_19 ⟨Nat.le_refl _, Nat.le_refl _⟩ h
set_option maxRecDepth 100000 in
theorem bX5_escapesOf_0 {G : GG} {d : Nat} {M : MM} {Q : Option AV → MM → Prop} (p0 : Nat) (hk0 : kd p0 = 5) (a1 : Int) (hS : ShX M) (h :
(a1 < 0 →
(Q (some (vI 0)) M)) ∧
(¬ (a1 < 0) →
((4 ≤ a1 →
(Q (some (vI 0)) M)) ∧
(¬ (4 ≤ a1) →
(((0 : Int) ≤ a1 ∧ (a1 : Int) < 4) ∧
(Q (some (vI (gI M (p0 + 3) a1.toNat))) M)))))) :
  Wp G mX5_escapesOf d 0 0 0 [some (vR p0), some (vI a1)] [] M 0 0 Q := by
  refine wg_iload_n dX5_escapesOf_0 rfl ?_
  refine wg_if_lt dX5_escapesOf_1 rfl (fun c1 => ?_) (fun c1 => ?_)
  · replace h := h.1 c1
    refine wg_iconst dX5_escapesOf_18 qiconst_0 ?_
    exact wp_iret rfl dX5_escapesOf_19 ⟨Nat.le_refl _, Nat.le_refl _⟩ h
  · replace h := h.2 c1
    refine wg_iload_n dX5_escapesOf_4 rfl ?_
    refine wg_iconst dX5_escapesOf_5 qiconst_4 ?_
    refine wg_icmp_ge dX5_escapesOf_6 rfl (fun c2 => ?_) (fun c2 => ?_)
    · replace h := h.1 c2
      refine wg_iconst dX5_escapesOf_18 qiconst_0 ?_
      exact wp_iret rfl dX5_escapesOf_19 ⟨Nat.le_refl _, Nat.le_refl _⟩ h
    · replace h := h.2 c2
      refine wg_aload_n dX5_escapesOf_9 rfl (kn5 hk0) ?_
      refine wg_getRe dX5_escapesOf_10 (fl_X5_24 rfl) rfl hk0 (x5 hS hk0 3 (Nat.le_of_ble_eq_true rfl) (Nat.le_of_ble_eq_true rfl)) ?_
      refine wg_iload_n dX5_escapesOf_13 rfl ?_
      obtain ⟨o3, h⟩ := h
      refine wg_iald dX5_escapesOf_14 (k5 hk0).2.2.1 o3.1 (by rw [(k5 hk0).2.2.2]; exact o3.2) ?_
      refine wg_goto dX5_escapesOf_15 rfl ?_
      exact wp_iret rfl dX5_escapesOf_19 ⟨Nat.le_refl _, Nat.le_refl _⟩ h
set_option maxRecDepth 100000 in
theorem bX5_tie_0 {G : GG} {d : Nat} {M : MM} {Q : Option AV → MM → Prop} (p0 : Nat) (hk0 : kd p0 = 5) (a1 : Int) (a2 : Int) (hS : ShX M) (h :
(a1 < 0 →
(Q none M)) ∧
(¬ (a1 < 0) →
((4 ≤ a1 →
(Q none M)) ∧
(¬ (4 ≤ a1) →
(((0 : Int) ≤ a1 ∧ (a1 : Int) < 4) ∧
(∀ M4 : MM, M4 = stI M (p0 + 1) a1.toNat a2 →
((∀ M5 : MM, M5 = stI M4 (p0 + 2) a1.toNat 0 →
(Q none M5))))))))) :
  Wp G mX5_tie d 0 0 0 [some (vR p0), some (vI a1), some (vI a2)] [] M 0 0 Q := by
  refine wg_iload_n dX5_tie_0 rfl ?_
  refine wg_if_lt dX5_tie_1 rfl (fun c1 => ?_) (fun c1 => ?_)
  · replace h := h.1 c1
    exact wp_vret rfl dX5_tie_23 ⟨Nat.le_refl _, Nat.le_refl _⟩ h
  · replace h := h.2 c1
    refine wg_iload_n dX5_tie_4 rfl ?_
    refine wg_iconst dX5_tie_5 qiconst_4 ?_
    refine wg_icmp_ge dX5_tie_6 rfl (fun c2 => ?_) (fun c2 => ?_)
    · replace h := h.1 c2
      exact wp_vret rfl dX5_tie_23 ⟨Nat.le_refl _, Nat.le_refl _⟩ h
    · replace h := h.2 c2
      refine wg_aload_n dX5_tie_9 rfl (kn5 hk0) ?_
      refine wg_getRe dX5_tie_10 (fl_X5_17 rfl) rfl hk0 (x5 hS hk0 1 (Nat.le_of_ble_eq_true rfl) (Nat.le_of_ble_eq_true rfl)) ?_
      refine wg_iload_n dX5_tie_13 rfl ?_
      refine wg_iload_n dX5_tie_14 rfl ?_
      obtain ⟨o3, h⟩ := h
      refine wg_iast dX5_tie_15 (k5 hk0).1.1 o3.1 (by rw [(k5 hk0).1.2]; exact o3.2) ?_
      generalize hM : stI M (p0 + 1) a1.toNat a2 = M4
      replace h := h _ hM.symm
      replace hS : ShX M4 := by rw [← hM]; exact hS
      clear hM
      refine wg_aload_n dX5_tie_16 rfl (kn5 hk0) ?_
      refine wg_getRe dX5_tie_17 (fl_X5_21 rfl) rfl hk0 (x5 hS hk0 2 (Nat.le_of_ble_eq_true rfl) (Nat.le_of_ble_eq_true rfl)) ?_
      refine wg_iload_n dX5_tie_20 rfl ?_
      refine wg_iconst dX5_tie_21 qiconst_0 ?_
      refine wg_iast dX5_tie_22 (k5 hk0).2.1.1 o3.1 (by rw [(k5 hk0).2.1.2]; exact o3.2) ?_
      generalize hM : stI M4 (p0 + 2) a1.toNat 0 = M5
      replace h := h _ hM.symm
      replace hS : ShX M5 := by rw [← hM]; exact hS
      clear hM
      exact wp_vret rfl dX5_tie_23 ⟨Nat.le_refl _, Nat.le_refl _⟩ h
set_option maxRecDepth 100000 in
theorem bX5_untie_0 {G : GG} {d : Nat} {M : MM} {Q : Option AV → MM → Prop} (p0 : Nat) (hk0 : kd p0 = 5) (a1 : Int) (hS : ShX M) (h :
Ok G mX5_tie d 0 0 [vR p0, vI a1, vI 0] M (fun v M1 => v = none ∧ ShX M1 ∧ 
(Q none M1))) :
  Wp G mX5_untie (d + 1) 0 0 0 [some (vR p0), some (vI a1)] [] M 0 0 Q := by
  refine wg_aload_n dX5_untie_0 rfl (kn5 hk0) ?_
  refine wg_iload_n dX5_untie_1 rfl ?_
  refine wg_iconst dX5_untie_2 qiconst_0 ?_
  refine wg_callV (I' := mX5_tie) (ci := 5) (np := 2) (d' := d) (q := p0) (as := [vI a1, vI 0]) (st := []) dX5_untie_3 lk_X5_31 ci_X5_tie rfl (Nat.le_of_ble_eq_true rfl) rfl rfl (Nat.le_of_ble_eq_true rfl) hk0 (Nat.le_refl _) ⟨Nat.le_refl _, Nat.le_refl _⟩ h (fun v M1 h => ?_)
  obtain ⟨rfl, hS, h⟩ := h
  exact wp_vret rfl dX5_untie_6 ⟨Nat.le_refl _, Nat.le_refl _⟩ h
set_option maxRecDepth 100000 in
theorem bX5_beastWith_0 {G : GG} {d : Nat} {M : MM} {Q : Option AV → MM → Prop} (p0 : Nat) (hk0 : kd p0 = 5) (a1 : Int) (hS : ShX M) (h :
Wp G mX5_beastWith d 0 0 2 [some (vR p0), some (vI a1), some (vI 0)] [] M 0 0 Q) :
  Wp G mX5_beastWith d 0 0 0 [some (vR p0), some (vI a1), none] [] M 0 0 Q := by
  refine wg_iconst dX5_beastWith_0 qiconst_0 ?_
  refine wg_istore_n (L' := [some (vR p0), some (vI a1), some (vI 0)]) dX5_beastWith_1 (Nat.le_of_ble_eq_true rfl) rfl ?_
  exact h
set_option maxRecDepth 100000 in
theorem bX5_beastWith_2 {G : GG} {d : Nat} {M : MM} {Q : Option AV → MM → Prop} (p0 : Nat) (hk0 : kd p0 = 5) (a1 : Int) (s2 : Int) (hS : ShX M) (h :
(4 ≤ s2 →
(Q (some (vI (-4))) M)) ∧
(¬ (4 ≤ s2) →
(((0 : Int) ≤ s2 ∧ (s2 : Int) < 4) ∧
(((iandv (ishrv (gI M (p0 + 1) s2.toNat) a1) 1) ≠ 1 →
(R32 (s2 + 1) ∧
(Wp G mX5_beastWith d 0 0 2 [some (vR p0), some (vI a1), some (vI (s2 + 1))] [] M 0 0 Q))) ∧
((iandv (ishrv (gI M (p0 + 1) s2.toNat) a1) 1) = 1 →
(Q (some (vI s2)) M)))))) :
  Wp G mX5_beastWith d 0 0 2 [some (vR p0), some (vI a1), some (vI s2)] [] M 0 0 Q := by
  refine wg_iload_n dX5_beastWith_2 rfl ?_
  refine wg_iconst dX5_beastWith_3 qiconst_4 ?_
  refine wg_icmp_ge dX5_beastWith_4 rfl (fun c1 => ?_) (fun c1 => ?_)
  · replace h := h.1 c1
    refine wg_bipush dX5_beastWith_29 qbipush_m4 ?_
    exact wp_iret rfl dX5_beastWith_31 ⟨Nat.le_refl _, Nat.le_refl _⟩ h
  · replace h := h.2 c1
    refine wg_aload_n dX5_beastWith_7 rfl (kn5 hk0) ?_
    refine wg_getRe dX5_beastWith_8 (fl_X5_17 rfl) rfl hk0 (x5 hS hk0 1 (Nat.le_of_ble_eq_true rfl) (Nat.le_of_ble_eq_true rfl)) ?_
    refine wg_iload_n dX5_beastWith_11 rfl ?_
    obtain ⟨o2, h⟩ := h
    refine wg_iald dX5_beastWith_12 (k5 hk0).1.1 o2.1 (by rw [(k5 hk0).1.2]; exact o2.2) ?_
    refine wg_iload_n dX5_beastWith_13 rfl ?_
    refine wg_ishr dX5_beastWith_14 ?_
    refine wg_iconst dX5_beastWith_15 qiconst_1 ?_
    refine wg_iand dX5_beastWith_16 ?_
    refine wg_iconst dX5_beastWith_17 qiconst_1 ?_
    refine wg_icmp_ne dX5_beastWith_18 rfl (fun c3 => ?_) (fun c3 => ?_)
    · replace h := h.1 c3
      obtain ⟨o, h⟩ := h
      refine wg_iinc (L' := [some (vR p0), some (vI a1), some (vI (s2 + 1))]) dX5_beastWith_23 (Nat.le_of_ble_eq_true rfl) rfl rfl o ?_
      refine wg_goto dX5_beastWith_26 rfl ?_
      exact h
    · replace h := h.2 c3
      refine wg_iload_n dX5_beastWith_21 rfl ?_
      exact wp_iret rfl dX5_beastWith_22 ⟨Nat.le_refl _, Nat.le_refl _⟩ h
set_option maxRecDepth 100000 in
theorem bX5_gone_0 {G : GG} {d : Nat} {M : MM} {Q : Option AV → MM → Prop} (p0 : Nat) (hk0 : kd p0 = 5) (hS : ShX M) (h :
Wp G mX5_gone d 0 0 4 [some (vR p0), some (vI 0), some (vI 0)] [] M 0 0 Q) :
  Wp G mX5_gone d 0 0 0 [some (vR p0), none, none] [] M 0 0 Q := by
  refine wg_iconst dX5_gone_0 qiconst_0 ?_
  refine wg_istore_n (L' := [some (vR p0), some (vI 0), none]) dX5_gone_1 (Nat.le_of_ble_eq_true rfl) rfl ?_
  refine wg_iconst dX5_gone_2 qiconst_0 ?_
  refine wg_istore_n (L' := [some (vR p0), some (vI 0), some (vI 0)]) dX5_gone_3 (Nat.le_of_ble_eq_true rfl) rfl ?_
  exact h
set_option maxRecDepth 100000 in
theorem bX5_gone_4 {G : GG} {d : Nat} {M : MM} {Q : Option AV → MM → Prop} (p0 : Nat) (hk0 : kd p0 = 5) (s1 : Int) (s2 : Int) (hS : ShX M) (h :
(4 ≤ s2 →
(Q (some (vI s1)) M)) ∧
(¬ (4 ≤ s2) →
(((0 : Int) ≤ s2 ∧ (s2 : Int) < 4) ∧
(R32 (s2 + 1) ∧
(Wp G mX5_gone d 0 0 4 [some (vR p0), some (vI (iorv s1 (gI M (p0 + 1) s2.toNat))), some (vI (s2 + 1))] [] M 0 0 Q))))) :
  Wp G mX5_gone d 0 0 4 [some (vR p0), some (vI s1), some (vI s2)] [] M 0 0 Q := by
  refine wg_iload_n dX5_gone_4 rfl ?_
  refine wg_iconst dX5_gone_5 qiconst_4 ?_
  refine wg_icmp_ge dX5_gone_6 rfl (fun c1 => ?_) (fun c1 => ?_)
  · replace h := h.1 c1
    refine wg_iload_n dX5_gone_24 rfl ?_
    exact wp_iret rfl dX5_gone_25 ⟨Nat.le_refl _, Nat.le_refl _⟩ h
  · replace h := h.2 c1
    refine wg_iload_n dX5_gone_9 rfl ?_
    refine wg_aload_n dX5_gone_10 rfl (kn5 hk0) ?_
    refine wg_getRe dX5_gone_11 (fl_X5_17 rfl) rfl hk0 (x5 hS hk0 1 (Nat.le_of_ble_eq_true rfl) (Nat.le_of_ble_eq_true rfl)) ?_
    refine wg_iload_n dX5_gone_14 rfl ?_
    obtain ⟨o2, h⟩ := h
    refine wg_iald dX5_gone_15 (k5 hk0).1.1 o2.1 (by rw [(k5 hk0).1.2]; exact o2.2) ?_
    refine wg_ior dX5_gone_16 ?_
    refine wg_istore_n (L' := [some (vR p0), some (vI (iorv s1 (gI M (p0 + 1) s2.toNat))), some (vI s2)]) dX5_gone_17 (Nat.le_of_ble_eq_true rfl) rfl ?_
    obtain ⟨o, h⟩ := h
    refine wg_iinc (L' := [some (vR p0), some (vI (iorv s1 (gI M (p0 + 1) s2.toNat))), some (vI (s2 + 1))]) dX5_gone_18 (Nat.le_of_ble_eq_true rfl) rfl rfl o ?_
    refine wg_goto dX5_gone_21 rfl ?_
    exact h
set_option maxRecDepth 100000 in
theorem bX5_found_0 {G : GG} {d : Nat} {M : MM} {Q : Option AV → MM → Prop} (p0 : Nat) (hk0 : kd p0 = 5) (a1 : Int) (hS : ShX M) (h :
Wp G mX5_found d 0 0 4 [some (vR p0), some (vI a1), some (vI 0), some (vI 0), none] [] M 0 0 Q) :
  Wp G mX5_found d 0 0 0 [some (vR p0), some (vI a1), none, none, none] [] M 0 0 Q := by
  refine wg_iconst dX5_found_0 qiconst_0 ?_
  refine wg_istore_n (L' := [some (vR p0), some (vI a1), some (vI 0), none, none]) dX5_found_1 (Nat.le_of_ble_eq_true rfl) rfl ?_
  refine wg_iconst dX5_found_2 qiconst_0 ?_
  refine wg_istore_n (L' := [some (vR p0), some (vI a1), some (vI 0), some (vI 0), none]) dX5_found_3 (Nat.le_of_ble_eq_true rfl) rfl ?_
  exact h
set_option maxRecDepth 100000 in
theorem bX5_found_4 {G : GG} {d : Nat} {M : MM} {Q : Option AV → MM → Prop} (p0 : Nat) (hk0 : kd p0 = 5) (a1 : Int) (s2 : Int) (s3 : Int) (hS : ShX M) (h :
(4 ≤ s3 →
(Q (some (vI s2)) M)) ∧
(¬ (4 ≤ s3) →
(((0 : Int) ≤ s3 ∧ (s3 : Int) < 4) ∧
(((if 2 ≤ (gI M (p0 + 2) s3.toNat) then (0 : Int) else 1) = 0 →
((R32 (s3 + 1) ∧
(Wp G mX5_found d 0 0 4 [some (vR p0), some (vI a1), some (vI (iorv s2 (gI M (p0 + 1) s3.toNat))), some (vI (s3 + 1)), none] [] M 0 0 Q)))) ∧
(¬ ((if 2 ≤ (gI M (p0 + 2) s3.toNat) then (0 : Int) else 1) = 0) →
((R32 (s3 + 1) ∧
(Wp G mX5_found d 0 0 4 [some (vR p0), some (vI a1), some (vI (iorv s2 (iandv (gI M (p0 + 1) s3.toNat) (ixorv a1 (-1))))), some (vI (s3 + 1)), none] [] M 0 0 Q)))))))) :
  Wp G mX5_found d 0 0 4 [some (vR p0), some (vI a1), some (vI s2), some (vI s3), none] [] M 0 0 Q := by
  refine wg_iload_n dX5_found_4 rfl ?_
  refine wg_iconst dX5_found_5 qiconst_4 ?_
  refine wg_icmp_ge dX5_found_6 rfl (fun c1 => ?_) (fun c1 => ?_)
  · replace h := h.1 c1
    refine wg_iload_n dX5_found_59 rfl ?_
    exact wp_iret rfl dX5_found_60 ⟨Nat.le_refl _, Nat.le_refl _⟩ h
  · replace h := h.2 c1
    refine wg_aload_n dX5_found_9 rfl (kn5 hk0) ?_
    refine wg_getRe dX5_found_10 (fl_X5_21 rfl) rfl hk0 (x5 hS hk0 2 (Nat.le_of_ble_eq_true rfl) (Nat.le_of_ble_eq_true rfl)) ?_
    refine wg_iload_n dX5_found_13 rfl ?_
    obtain ⟨o2, h⟩ := h
    refine wg_iald dX5_found_14 (k5 hk0).2.1.1 o2.1 (by rw [(k5 hk0).2.1.2]; exact o2.2) ?_
    refine wg_iconst dX5_found_15 qiconst_2 ?_
    have hJ5 : Wp G mX5_found d 0 0 24 [some (vR p0), some (vI a1), some (vI s2), some (vI s3), none] [vI (if 2 ≤ (gI M (p0 + 2) s3.toNat) then (0 : Int) else 1)] M 0 0 Q := by
      refine wg_istore (L' := [some (vR p0), some (vI a1), some (vI s2), some (vI s3), some (vI (if 2 ≤ (gI M (p0 + 2) s3.toNat) then (0 : Int) else 1))]) dX5_found_24 (Nat.le_of_ble_eq_true rfl) rfl ?_
      refine wg_iload_n dX5_found_26 rfl ?_
      refine wg_iload dX5_found_27 rfl ?_
      refine wg_if_eq dX5_found_29 rfl (fun c4 => ?_) (fun c4 => ?_)
      · replace h := h.1 c4
        refine wg_aload_n dX5_found_45 rfl (kn5 hk0) ?_
        refine wg_getRe dX5_found_46 (fl_X5_17 rfl) rfl hk0 (x5 hS hk0 1 (Nat.le_of_ble_eq_true rfl) (Nat.le_of_ble_eq_true rfl)) ?_
        refine wg_iload_n dX5_found_49 rfl ?_
        refine wg_iald dX5_found_50 (k5 hk0).1.1 o2.1 (by rw [(k5 hk0).1.2]; exact o2.2) ?_
        refine wg_ior dX5_found_51 ?_
        refine wg_istore_n (L' := [some (vR p0), some (vI a1), some (vI (iorv s2 (gI M (p0 + 1) s3.toNat))), some (vI s3), some (vI (if 2 ≤ (gI M (p0 + 2) s3.toNat) then (0 : Int) else 1))]) dX5_found_52 (Nat.le_of_ble_eq_true rfl) rfl ?_
        obtain ⟨o, h⟩ := h
        refine wg_iinc (L' := [some (vR p0), some (vI a1), some (vI (iorv s2 (gI M (p0 + 1) s3.toNat))), some (vI (s3 + 1)), some (vI (if 2 ≤ (gI M (p0 + 2) s3.toNat) then (0 : Int) else 1))]) dX5_found_53 (Nat.le_of_ble_eq_true rfl) rfl rfl o ?_
        refine wg_goto dX5_found_56 rfl ?_
        refine wg_weak [true, true, true, true, false] rfl ?_
        exact h
      · replace h := h.2 c4
        refine wg_aload_n dX5_found_32 rfl (kn5 hk0) ?_
        refine wg_getRe dX5_found_33 (fl_X5_17 rfl) rfl hk0 (x5 hS hk0 1 (Nat.le_of_ble_eq_true rfl) (Nat.le_of_ble_eq_true rfl)) ?_
        refine wg_iload_n dX5_found_36 rfl ?_
        refine wg_iald dX5_found_37 (k5 hk0).1.1 o2.1 (by rw [(k5 hk0).1.2]; exact o2.2) ?_
        refine wg_iload_n dX5_found_38 rfl ?_
        refine wg_iconst dX5_found_39 qiconst_m1 ?_
        refine wg_ixor dX5_found_40 ?_
        refine wg_iand dX5_found_41 ?_
        refine wg_goto dX5_found_42 rfl ?_
        refine wg_ior dX5_found_51 ?_
        refine wg_istore_n (L' := [some (vR p0), some (vI a1), some (vI (iorv s2 (iandv (gI M (p0 + 1) s3.toNat) (ixorv a1 (-1))))), some (vI s3), some (vI (if 2 ≤ (gI M (p0 + 2) s3.toNat) then (0 : Int) else 1))]) dX5_found_52 (Nat.le_of_ble_eq_true rfl) rfl ?_
        obtain ⟨o, h⟩ := h
        refine wg_iinc (L' := [some (vR p0), some (vI a1), some (vI (iorv s2 (iandv (gI M (p0 + 1) s3.toNat) (ixorv a1 (-1))))), some (vI (s3 + 1)), some (vI (if 2 ≤ (gI M (p0 + 2) s3.toNat) then (0 : Int) else 1))]) dX5_found_53 (Nat.le_of_ble_eq_true rfl) rfl rfl o ?_
        refine wg_goto dX5_found_56 rfl ?_
        refine wg_weak [true, true, true, true, false] rfl ?_
        exact h
    refine wg_icmp_ge dX5_found_16 rfl (fun c3 => ?_) (fun c3 => ?_)
    · rw [show (if 2 ≤ (gI M (p0 + 2) s3.toNat) then (0 : Int) else 1) = 0 from if_pos c3] at hJ5
      refine wg_iconst dX5_found_23 qiconst_0 ?_
      exact hJ5
    · rw [show (if 2 ≤ (gI M (p0 + 2) s3.toNat) then (0 : Int) else 1) = 1 from if_neg c3] at hJ5
      refine wg_iconst dX5_found_19 qiconst_1 ?_
      refine wg_goto dX5_found_20 rfl ?_
      exact hJ5
set_option maxRecDepth 100000 in
theorem bX5_passDay_0 {G : GG} {d : Nat} {M : MM} {Q : Option AV → MM → Prop} (p0 : Nat) (hk0 : kd p0 = 5) (p1 : Nat) (hk1 : kd p1 = 7) (hS : ShX M) (h :
R32 ((gI M p0 0) + 1) ∧
(∀ M1 : MM, M1 = stI M p0 0 ((gI M p0 0) + 1) →
(Wp G mX5_passDay (d + 1) 0 0 15 [some (vR p0), some (vR p1), some (vR 30), some (vI 0), some (vI 0)] [] M1 0 0 Q))) :
  Wp G mX5_passDay (d + 1) 0 0 0 [some (vR p0), some (vR p1), some (vR 30), none, none] [] M 0 0 Q := by
  refine wg_iconst dX5_passDay_0 qiconst_0 ?_
  refine wg_istore_n (L' := [some (vR p0), some (vR p1), some (vR 30), some (vI 0), none]) dX5_passDay_1 (Nat.le_of_ble_eq_true rfl) rfl ?_
  refine wg_aload_n dX5_passDay_2 rfl (kn5 hk0) ?_
  refine wg_dup dX5_passDay_3 rfl ?_
  refine wg_getI dX5_passDay_4 (fl_X5_11 rfl) rfl hk0 ?_
  refine wg_iconst dX5_passDay_7 qiconst_1 ?_
  obtain ⟨o, h⟩ := h
  refine wg_iadd dX5_passDay_8 o ?_
  refine wg_putI dX5_passDay_9 (fl_X5_11 rfl) rfl rfl hk0 ?_
  generalize hM : stI M p0 0 ((gI M p0 0) + 1) = M1
  replace h := h _ hM.symm
  replace hS : ShX M1 := by rw [← hM]; exact hS
  clear hM
  refine wg_iconst dX5_passDay_12 qiconst_0 ?_
  refine wg_istore (L' := [some (vR p0), some (vR p1), some (vR 30), some (vI 0), some (vI 0)]) dX5_passDay_13 (Nat.le_of_ble_eq_true rfl) rfl ?_
  exact h
set_option maxRecDepth 100000 in
theorem bX5_passDay_15 {G : GG} {d : Nat} {M : MM} {Q : Option AV → MM → Prop} (p0 : Nat) (hk0 : kd p0 = 5) (p1 : Nat) (hk1 : kd p1 = 7) (s3 : Int) (s4 : Int) (hS : ShX M) (h :
(4 ≤ s4 →
(Q (some (vI s3)) M)) ∧
(¬ (4 ≤ s4) →
(((0 : Int) ≤ s4 ∧ (s4 : Int) < 4) ∧
(((gI M (p0 + 1) s4.toNat) ≠ 0 →
((R32 ((gI M (p0 + 2) s4.toNat) + 1) ∧
((∀ M4 : MM, M4 = stI M (p0 + 2) s4.toNat ((gI M (p0 + 2) s4.toNat) + 1) →
((((gI M4 (p0 + 2) s4.toNat) = 3 →
(((∀ M6 : MM, M6 = stI M4 (p0 + 1) s4.toNat (iandv (gI M4 (p0 + 1) s4.toNat) (ixorv (gI M4 p1 6) (-1))) →
((Ok G mX6_strengthOf d 0 0 [vR 30, vI (gI M6 (p0 + 1) s4.toNat)] M6 (fun v M7 => ∃ r8 : Int, v = some (vI r8) ∧ ShX M7 ∧ 
(Ok G mX7_pullOfBeast d 0 0 [vR p1, vI s4] M7 (fun v M9 => ∃ r10 : Int, v = some (vI r10) ∧ ShX M9 ∧ 
((r10 ≤ r8 →
(R32 (s4 + 1) ∧
(Wp G mX5_passDay (d + 1) 0 0 15 [some (vR p0), some (vR p1), some (vR 30), some (vI s3), some (vI (s4 + 1))] [] M9 0 0 Q))) ∧
(¬ (r10 ≤ r8) →
(Ok G mX5_untie d 0 0 [vR p0, vI s4] M9 (fun v M12 => v = none ∧ ShX M12 ∧ 
((R32 ((gI M12 (p0 + 3) s4.toNat) + 1) ∧
((∀ M13 : MM, M13 = stI M12 (p0 + 3) s4.toNat ((gI M12 (p0 + 3) s4.toNat) + 1) →
(R32 (s3 + 1) ∧
(R32 (s4 + 1) ∧
(Wp G mX5_passDay (d + 1) 0 0 15 [some (vR p0), some (vR p1), some (vR 30), some (vI (s3 + 1)), some (vI (s4 + 1))] [] M13 0 0 Q)))))))))))))))))))) ∧
(¬ ((gI M4 (p0 + 2) s4.toNat) = 3) →
(R32 (s4 + 1) ∧
(Wp G mX5_passDay (d + 1) 0 0 15 [some (vR p0), some (vR p1), some (vR 30), some (vI s3), some (vI (s4 + 1))] [] M4 0 0 Q)))))))))) ∧
((gI M (p0 + 1) s4.toNat) = 0 →
(R32 (s4 + 1) ∧
(Wp G mX5_passDay (d + 1) 0 0 15 [some (vR p0), some (vR p1), some (vR 30), some (vI s3), some (vI (s4 + 1))] [] M 0 0 Q))))))) :
  Wp G mX5_passDay (d + 1) 0 0 15 [some (vR p0), some (vR p1), some (vR 30), some (vI s3), some (vI s4)] [] M 0 0 Q := by
  refine wg_iload dX5_passDay_15 rfl ?_
  refine wg_iconst dX5_passDay_17 qiconst_4 ?_
  refine wg_icmp_ge dX5_passDay_18 rfl (fun c1 => ?_) (fun c1 => ?_)
  · replace h := h.1 c1
    refine wg_iload_n dX5_passDay_121 rfl ?_
    exact wp_iret rfl dX5_passDay_122 ⟨Nat.le_refl _, Nat.le_refl _⟩ h
  · replace h := h.2 c1
    refine wg_aload_n dX5_passDay_21 rfl (kn5 hk0) ?_
    refine wg_getRe dX5_passDay_22 (fl_X5_17 rfl) rfl hk0 (x5 hS hk0 1 (Nat.le_of_ble_eq_true rfl) (Nat.le_of_ble_eq_true rfl)) ?_
    refine wg_iload dX5_passDay_25 rfl ?_
    obtain ⟨o2, h⟩ := h
    refine wg_iald dX5_passDay_27 (k5 hk0).1.1 o2.1 (by rw [(k5 hk0).1.2]; exact o2.2) ?_
    refine wg_if_ne dX5_passDay_28 rfl (fun c3 => ?_) (fun c3 => ?_)
    · replace h := h.1 c3
      refine wg_aload_n dX5_passDay_34 rfl (kn5 hk0) ?_
      refine wg_getRe dX5_passDay_35 (fl_X5_21 rfl) rfl hk0 (x5 hS hk0 2 (Nat.le_of_ble_eq_true rfl) (Nat.le_of_ble_eq_true rfl)) ?_
      refine wg_iload dX5_passDay_38 rfl ?_
      refine wg_dup2 dX5_passDay_40 rfl rfl ?_
      refine wg_iald dX5_passDay_41 (k5 hk0).2.1.1 o2.1 (by rw [(k5 hk0).2.1.2]; exact o2.2) ?_
      refine wg_iconst dX5_passDay_42 qiconst_1 ?_
      obtain ⟨o, h⟩ := h
      refine wg_iadd dX5_passDay_43 o ?_
      refine wg_iast dX5_passDay_44 (k5 hk0).2.1.1 o2.1 (by rw [(k5 hk0).2.1.2]; exact o2.2) ?_
      generalize hM : stI M (p0 + 2) s4.toNat ((gI M (p0 + 2) s4.toNat) + 1) = M4
      replace h := h _ hM.symm
      replace hS : ShX M4 := by rw [← hM]; exact hS
      clear hM
      refine wg_aload_n dX5_passDay_45 rfl (kn5 hk0) ?_
      refine wg_getRe dX5_passDay_46 (fl_X5_21 rfl) rfl hk0 (x5 hS hk0 2 (Nat.le_of_ble_eq_true rfl) (Nat.le_of_ble_eq_true rfl)) ?_
      refine wg_iload dX5_passDay_49 rfl ?_
      refine wg_iald dX5_passDay_51 (k5 hk0).2.1.1 o2.1 (by rw [(k5 hk0).2.1.2]; exact o2.2) ?_
      refine wg_iconst dX5_passDay_52 qiconst_3 ?_
      refine wg_icmp_eq dX5_passDay_53 rfl (fun c5 => ?_) (fun c5 => ?_)
      · replace h := h.1 c5
        refine wg_aload_n dX5_passDay_59 rfl (kn5 hk0) ?_
        refine wg_getRe dX5_passDay_60 (fl_X5_17 rfl) rfl hk0 (x5 hS hk0 1 (Nat.le_of_ble_eq_true rfl) (Nat.le_of_ble_eq_true rfl)) ?_
        refine wg_iload dX5_passDay_63 rfl ?_
        refine wg_dup2 dX5_passDay_65 rfl rfl ?_
        refine wg_iald dX5_passDay_66 (k5 hk0).1.1 o2.1 (by rw [(k5 hk0).1.2]; exact o2.2) ?_
        refine wg_aload_n dX5_passDay_67 rfl (kn7 hk1) ?_
        refine wg_getI dX5_passDay_68 (fl_X5_35 rfl) rfl hk1 ?_
        refine wg_iconst dX5_passDay_71 qiconst_m1 ?_
        refine wg_ixor dX5_passDay_72 ?_
        refine wg_iand dX5_passDay_73 ?_
        refine wg_iast dX5_passDay_74 (k5 hk0).1.1 o2.1 (by rw [(k5 hk0).1.2]; exact o2.2) ?_
        generalize hM : stI M4 (p0 + 1) s4.toNat (iandv (gI M4 (p0 + 1) s4.toNat) (ixorv (gI M4 p1 6) (-1))) = M6
        replace h := h _ hM.symm
        replace hS : ShX M6 := by rw [← hM]; exact hS
        clear hM
        refine wg_aload_n dX5_passDay_75 rfl (Nat.succ_ne_zero _) ?_
        refine wg_aload_n dX5_passDay_76 rfl (kn5 hk0) ?_
        refine wg_getRe dX5_passDay_77 (fl_X5_17 rfl) rfl hk0 (x5 hS hk0 1 (Nat.le_of_ble_eq_true rfl) (Nat.le_of_ble_eq_true rfl)) ?_
        refine wg_iload dX5_passDay_80 rfl ?_
        refine wg_iald dX5_passDay_82 (k5 hk0).1.1 o2.1 (by rw [(k5 hk0).1.2]; exact o2.2) ?_
        refine wg_callV (I' := mX6_strengthOf) (ci := 6) (np := 1) (d' := d) (q := 30) (as := [vI (gI M6 (p0 + 1) s4.toNat)]) (st := []) dX5_passDay_83 lk_X5_38 ci_X6_strengthOf rfl (Nat.le_of_ble_eq_true rfl) rfl rfl (Nat.le_of_ble_eq_true rfl) rfl (Nat.le_refl _) ⟨Nat.le_refl _, Nat.le_refl _⟩ h (fun v M7 h => ?_)
        obtain ⟨r8, rfl, hS, h⟩ := h
        refine wg_aload_n dX5_passDay_86 rfl (kn7 hk1) ?_
        refine wg_iload dX5_passDay_87 rfl ?_
        refine wg_callV (I' := mX7_pullOfBeast) (ci := 7) (np := 1) (d' := d) (q := p1) (as := [vI s4]) (st := [vI r8]) dX5_passDay_89 lk_X5_43 ci_X7_pullOfBeast rfl (Nat.le_of_ble_eq_true rfl) rfl rfl (Nat.le_of_ble_eq_true rfl) hk1 (Nat.le_refl _) ⟨Nat.le_refl _, Nat.le_refl _⟩ h (fun v M9 h => ?_)
        obtain ⟨r10, rfl, hS, h⟩ := h
        refine wg_icmp_ge dX5_passDay_92 rfl (fun c11 => ?_) (fun c11 => ?_)
        · replace h := h.1 c11
          obtain ⟨o, h⟩ := h
          refine wg_iinc (L' := [some (vR p0), some (vR p1), some (vR 30), some (vI s3), some (vI (s4 + 1))]) dX5_passDay_115 (Nat.le_of_ble_eq_true rfl) rfl rfl o ?_
          refine wg_goto dX5_passDay_118 rfl ?_
          exact h
        · replace h := h.2 c11
          refine wg_aload_n dX5_passDay_95 rfl (kn5 hk0) ?_
          refine wg_iload dX5_passDay_96 rfl ?_
          refine wg_callV (I' := mX5_untie) (ci := 5) (np := 1) (d' := d) (q := p0) (as := [vI s4]) (st := []) dX5_passDay_98 lk_X5_46 ci_X5_untie rfl (Nat.le_of_ble_eq_true rfl) rfl rfl (Nat.le_of_ble_eq_true rfl) hk0 (Nat.le_refl _) ⟨Nat.le_refl _, Nat.le_refl _⟩ h (fun v M12 h => ?_)
          obtain ⟨rfl, hS, h⟩ := h
          refine wg_aload_n dX5_passDay_101 rfl (kn5 hk0) ?_
          refine wg_getRe dX5_passDay_102 (fl_X5_24 rfl) rfl hk0 (x5 hS hk0 3 (Nat.le_of_ble_eq_true rfl) (Nat.le_of_ble_eq_true rfl)) ?_
          refine wg_iload dX5_passDay_105 rfl ?_
          refine wg_dup2 dX5_passDay_107 rfl rfl ?_
          refine wg_iald dX5_passDay_108 (k5 hk0).2.2.1 o2.1 (by rw [(k5 hk0).2.2.2]; exact o2.2) ?_
          refine wg_iconst dX5_passDay_109 qiconst_1 ?_
          obtain ⟨o, h⟩ := h
          refine wg_iadd dX5_passDay_110 o ?_
          refine wg_iast dX5_passDay_111 (k5 hk0).2.2.1 o2.1 (by rw [(k5 hk0).2.2.2]; exact o2.2) ?_
          generalize hM : stI M12 (p0 + 3) s4.toNat ((gI M12 (p0 + 3) s4.toNat) + 1) = M13
          replace h := h _ hM.symm
          replace hS : ShX M13 := by rw [← hM]; exact hS
          clear hM
          obtain ⟨o, h⟩ := h
          refine wg_iinc (L' := [some (vR p0), some (vR p1), some (vR 30), some (vI (s3 + 1)), some (vI s4)]) dX5_passDay_112 (Nat.le_of_ble_eq_true rfl) rfl rfl o ?_
          obtain ⟨o, h⟩ := h
          refine wg_iinc (L' := [some (vR p0), some (vR p1), some (vR 30), some (vI (s3 + 1)), some (vI (s4 + 1))]) dX5_passDay_115 (Nat.le_of_ble_eq_true rfl) rfl rfl o ?_
          refine wg_goto dX5_passDay_118 rfl ?_
          exact h
      · replace h := h.2 c5
        refine wg_goto dX5_passDay_56 rfl ?_
        obtain ⟨o, h⟩ := h
        refine wg_iinc (L' := [some (vR p0), some (vR p1), some (vR 30), some (vI s3), some (vI (s4 + 1))]) dX5_passDay_115 (Nat.le_of_ble_eq_true rfl) rfl rfl o ?_
        refine wg_goto dX5_passDay_118 rfl ?_
        exact h
    · replace h := h.2 c3
      refine wg_goto dX5_passDay_31 rfl ?_
      obtain ⟨o, h⟩ := h
      refine wg_iinc (L' := [some (vR p0), some (vR p1), some (vR 30), some (vI s3), some (vI (s4 + 1))]) dX5_passDay_115 (Nat.le_of_ble_eq_true rfl) rfl rfl o ?_
      refine wg_goto dX5_passDay_118 rfl ?_
      exact h
set_option maxRecDepth 100000 in
theorem bX6_fillFrom_0 {G : GG} {d : Nat} {M : MM} {Q : Option AV → MM → Prop} (p1 : Nat) (hk1 : kd p1 = 7) (hS : ShX M) (h :
∀ M1 : MM, M1 = stI M 30 0 (if ishlv 1 (gI M p1 0) < 1024 then ishlv 1 (gI M p1 0) else 1024) →
(Wp G mX6_fillFrom (d + 1) 0 0 18 [some (vR 30), some (vR p1), some (vI 0)] [] M1 0 0 Q)) :
  Wp G mX6_fillFrom (d + 1) 0 0 0 [some (vR 30), some (vR p1), none] [] M 0 0 Q := by
  refine wg_aload_n dX6_fillFrom_0 rfl (Nat.succ_ne_zero _) ?_
  refine wg_sipush dX6_fillFrom_1 qsipush_1024 ?_
  refine wg_iconst dX6_fillFrom_4 qiconst_1 ?_
  refine wg_aload_n dX6_fillFrom_5 rfl (kn7 hk1) ?_
  refine wg_getI dX6_fillFrom_6 (fl_X6_28 rfl) rfl hk1 ?_
  refine wg_ishl dX6_fillFrom_9 ?_
  refine wg_mmin dX6_fillFrom_10 lk_X6_31 ma_min_s in_Math ma_min_c (Nat.le_of_ble_eq_true rfl) (Nat.le_add_left 1 d) ⟨Nat.le_refl _, Nat.le_refl _⟩ ?_
  refine wg_putI dX6_fillFrom_13 (fl_X6_9 rfl) rfl rfl rfl ?_
  generalize hM : stI M 30 0 (if ishlv 1 (gI M p1 0) < 1024 then ishlv 1 (gI M p1 0) else 1024) = M1
  replace h := h _ hM.symm
  replace hS : ShX M1 := by rw [← hM]; exact hS
  clear hM
  refine wg_iconst dX6_fillFrom_16 qiconst_0 ?_
  refine wg_istore_n (L' := [some (vR 30), some (vR p1), some (vI 0)]) dX6_fillFrom_17 (Nat.le_of_ble_eq_true rfl) rfl ?_
  exact h
set_option maxRecDepth 100000 in
theorem bX6_fillFrom_18 {G : GG} {d : Nat} {M : MM} {Q : Option AV → MM → Prop} (p1 : Nat) (hk1 : kd p1 = 7) (s2 : Int) (hS : ShX M) (h :
((gI M 30 0) ≤ s2 →
(Q none M)) ∧
(¬ ((gI M 30 0) ≤ s2) →
((1024 ≤ s2 →
(Q none M)) ∧
(¬ (1024 ≤ s2) →
(Ok G mX6_sumOfStrength d 0 0 [vR p1, vI s2] M (fun v M3 => ∃ r4 : Int, v = some (vI r4) ∧ ShX M3 ∧ 
(((0 : Int) ≤ s2 ∧ (s2 : Int) < 1024) ∧
(∀ M6 : MM, M6 = stI M3 31 s2.toNat r4 →
((s2 = 0 →
(Ok G mX6_spread d 0 0 [vR p1, vI s2] M6 (fun v M8 => ∃ r9 : Int, v = some (vI r9) ∧ ShX M8 ∧ 
((∀ M10 : MM, M10 = stI M8 32 s2.toNat r9 →
((Ok G mX6_thoseWhoMiss d 0 0 [vR p1, vI (gI M10 32 s2.toNat)] M10 (fun v M11 => ∃ r12 : Int, v = some (vI r12) ∧ ShX M11 ∧ 
((∀ M13 : MM, M13 = stI M11 33 s2.toNat r12 →
((Ok G mX6_sumOfWeights d 0 0 [vR p1, vI (gI M13 33 s2.toNat)] M13 (fun v M14 => ∃ r15 : Int, v = some (vI r15) ∧ ShX M14 ∧ 
((∀ M16 : MM, M16 = stI M14 34 s2.toNat r15 →
(R32 (s2 + 1) ∧
(Wp G mX6_fillFrom (d + 1) 0 0 18 [some (vR 30), some (vR p1), some (vI (s2 + 1))] [] M16 0 0 Q))))))))))))))))) ∧
(¬ (s2 = 0) →
(Ok G mJ6_bitCount_0f7a4 d 0 0 [vI s2] M6 (fun v M17 => ∃ r18 : Int, v = some (vI r18) ∧ ShX M17 ∧ 
((r18 ≠ 1 →
(R32 (-s2) ∧
(Ok G mX6_followersOf d 0 0 [vR 30, vI (iandv s2 (-s2))] M17 (fun v M20 => ∃ r21 : Int, v = some (vI r21) ∧ ShX M20 ∧ 
(R32 (s2 - 1) ∧
(Ok G mX6_followersOf d 0 0 [vR 30, vI (iandv s2 (s2 - 1))] M20 (fun v M22 => ∃ r23 : Int, v = some (vI r23) ∧ ShX M22 ∧ 
((∀ M24 : MM, M24 = stI M22 32 s2.toNat (iorv r21 r23) →
((Ok G mX6_thoseWhoMiss d 0 0 [vR p1, vI (gI M24 32 s2.toNat)] M24 (fun v M25 => ∃ r26 : Int, v = some (vI r26) ∧ ShX M25 ∧ 
((∀ M27 : MM, M27 = stI M25 33 s2.toNat r26 →
((Ok G mX6_sumOfWeights d 0 0 [vR p1, vI (gI M27 33 s2.toNat)] M27 (fun v M28 => ∃ r29 : Int, v = some (vI r29) ∧ ShX M28 ∧ 
((∀ M30 : MM, M30 = stI M28 34 s2.toNat r29 →
(R32 (s2 + 1) ∧
(Wp G mX6_fillFrom (d + 1) 0 0 18 [some (vR 30), some (vR p1), some (vI (s2 + 1))] [] M30 0 0 Q))))))))))))))))))))) ∧
(r18 = 1 →
(Ok G mX6_spread d 0 0 [vR p1, vI s2] M17 (fun v M31 => ∃ r32 : Int, v = some (vI r32) ∧ ShX M31 ∧ 
((∀ M33 : MM, M33 = stI M31 32 s2.toNat r32 →
((Ok G mX6_thoseWhoMiss d 0 0 [vR p1, vI (gI M33 32 s2.toNat)] M33 (fun v M34 => ∃ r35 : Int, v = some (vI r35) ∧ ShX M34 ∧ 
((∀ M36 : MM, M36 = stI M34 33 s2.toNat r35 →
((Ok G mX6_sumOfWeights d 0 0 [vR p1, vI (gI M36 33 s2.toNat)] M36 (fun v M37 => ∃ r38 : Int, v = some (vI r38) ∧ ShX M37 ∧ 
((∀ M39 : MM, M39 = stI M37 34 s2.toNat r38 →
(R32 (s2 + 1) ∧
(Wp G mX6_fillFrom (d + 1) 0 0 18 [some (vR 30), some (vR p1), some (vI (s2 + 1))] [] M39 0 0 Q)))))))))))))))))))))))))))))) :
  Wp G mX6_fillFrom (d + 1) 0 0 18 [some (vR 30), some (vR p1), some (vI s2)] [] M 0 0 Q := by
  refine wg_iload_n dX6_fillFrom_18 rfl ?_
  refine wg_aload_n dX6_fillFrom_19 rfl (Nat.succ_ne_zero _) ?_
  refine wg_getI dX6_fillFrom_20 (fl_X6_9 rfl) rfl rfl ?_
  refine wg_icmp_ge dX6_fillFrom_23 rfl (fun c1 => ?_) (fun c1 => ?_)
  · replace h := h.1 c1
    exact wp_vret rfl dX6_fillFrom_126 ⟨Nat.le_refl _, Nat.le_refl _⟩ h
  · replace h := h.2 c1
    refine wg_iload_n dX6_fillFrom_26 rfl ?_
    refine wg_sipush dX6_fillFrom_27 qsipush_1024 ?_
    refine wg_icmp_ge dX6_fillFrom_30 rfl (fun c2 => ?_) (fun c2 => ?_)
    · replace h := h.1 c2
      exact wp_vret rfl dX6_fillFrom_126 ⟨Nat.le_refl _, Nat.le_refl _⟩ h
    · replace h := h.2 c2
      refine wg_aload_n dX6_fillFrom_33 rfl (Nat.succ_ne_zero _) ?_
      refine wg_getRe dX6_fillFrom_34 (fl_X6_15 rfl) rfl rfl (x30 hS 1 (r := 31) (Nat.le_of_ble_eq_true rfl) (Nat.le_of_ble_eq_true rfl) rfl) ?_
      refine wg_iload_n dX6_fillFrom_37 rfl ?_
      refine wg_aload_n dX6_fillFrom_38 rfl (kn7 hk1) ?_
      refine wg_iload_n dX6_fillFrom_39 rfl ?_
      refine wg_callS (I' := mX6_sumOfStrength) (np := 2) (d' := d) (as := [vR p1, vI s2]) (st := [vI s2, vR 31]) dX6_fillFrom_40 lk_X6_37 ci_X6_sumOfStrength rfl rfl (Nat.le_of_ble_eq_true rfl) (Nat.le_refl _) ⟨Nat.le_refl _, Nat.le_refl _⟩ h (fun v M3 h => ?_)
      obtain ⟨r4, rfl, hS, h⟩ := h
      obtain ⟨o5, h⟩ := h
      refine wg_iast dX6_fillFrom_43 rfl o5.1 o5.2 ?_
      generalize hM : stI M3 31 s2.toNat r4 = M6
      replace h := h _ hM.symm
      replace hS : ShX M6 := by rw [← hM]; exact hS
      clear hM
      refine wg_aload_n dX6_fillFrom_44 rfl (Nat.succ_ne_zero _) ?_
      refine wg_getRe dX6_fillFrom_45 (fl_X6_19 rfl) rfl rfl (x30 hS 2 (r := 32) (Nat.le_of_ble_eq_true rfl) (Nat.le_of_ble_eq_true rfl) rfl) ?_
      refine wg_iload_n dX6_fillFrom_48 rfl ?_
      refine wg_iload_n dX6_fillFrom_49 rfl ?_
      refine wg_if_eq dX6_fillFrom_50 rfl (fun c7 => ?_) (fun c7 => ?_)
      · replace h := h.1 c7
        refine wg_aload_n dX6_fillFrom_61 rfl (kn7 hk1) ?_
        refine wg_iload_n dX6_fillFrom_62 rfl ?_
        refine wg_callS (I' := mX6_spread) (np := 2) (d' := d) (as := [vR p1, vI s2]) (st := [vI s2, vR 32]) dX6_fillFrom_63 lk_X6_47 ci_X6_spread rfl rfl (Nat.le_of_ble_eq_true rfl) (Nat.le_refl _) ⟨Nat.le_refl _, Nat.le_refl _⟩ h (fun v M8 h => ?_)
        obtain ⟨r9, rfl, hS, h⟩ := h
        refine wg_goto dX6_fillFrom_66 rfl ?_
        refine wg_iast dX6_fillFrom_87 rfl o5.1 o5.2 ?_
        generalize hM : stI M8 32 s2.toNat r9 = M10
        replace h := h _ hM.symm
        replace hS : ShX M10 := by rw [← hM]; exact hS
        clear hM
        refine wg_aload_n dX6_fillFrom_88 rfl (Nat.succ_ne_zero _) ?_
        refine wg_getRe dX6_fillFrom_89 (fl_X6_22 rfl) rfl rfl (x30 hS 3 (r := 33) (Nat.le_of_ble_eq_true rfl) (Nat.le_of_ble_eq_true rfl) rfl) ?_
        refine wg_iload_n dX6_fillFrom_92 rfl ?_
        refine wg_aload_n dX6_fillFrom_93 rfl (kn7 hk1) ?_
        refine wg_aload_n dX6_fillFrom_94 rfl (Nat.succ_ne_zero _) ?_
        refine wg_getRe dX6_fillFrom_95 (fl_X6_19 rfl) rfl rfl (x30 hS 2 (r := 32) (Nat.le_of_ble_eq_true rfl) (Nat.le_of_ble_eq_true rfl) rfl) ?_
        refine wg_iload_n dX6_fillFrom_98 rfl ?_
        refine wg_iald dX6_fillFrom_99 rfl o5.1 o5.2 ?_
        refine wg_callS (I' := mX6_thoseWhoMiss) (np := 2) (d' := d) (as := [vR p1, vI (gI M10 32 s2.toNat)]) (st := [vI s2, vR 33]) dX6_fillFrom_100 lk_X6_53 ci_X6_thoseWhoMiss rfl rfl (Nat.le_of_ble_eq_true rfl) (Nat.le_refl _) ⟨Nat.le_refl _, Nat.le_refl _⟩ h (fun v M11 h => ?_)
        obtain ⟨r12, rfl, hS, h⟩ := h
        refine wg_iast dX6_fillFrom_103 rfl o5.1 o5.2 ?_
        generalize hM : stI M11 33 s2.toNat r12 = M13
        replace h := h _ hM.symm
        replace hS : ShX M13 := by rw [← hM]; exact hS
        clear hM
        refine wg_aload_n dX6_fillFrom_104 rfl (Nat.succ_ne_zero _) ?_
        refine wg_getRe dX6_fillFrom_105 (fl_X6_25 rfl) rfl rfl (x30 hS 4 (r := 34) (Nat.le_of_ble_eq_true rfl) (Nat.le_of_ble_eq_true rfl) rfl) ?_
        refine wg_iload_n dX6_fillFrom_108 rfl ?_
        refine wg_aload_n dX6_fillFrom_109 rfl (kn7 hk1) ?_
        refine wg_aload_n dX6_fillFrom_110 rfl (Nat.succ_ne_zero _) ?_
        refine wg_getRe dX6_fillFrom_111 (fl_X6_22 rfl) rfl rfl (x30 hS 3 (r := 33) (Nat.le_of_ble_eq_true rfl) (Nat.le_of_ble_eq_true rfl) rfl) ?_
        refine wg_iload_n dX6_fillFrom_114 rfl ?_
        refine wg_iald dX6_fillFrom_115 rfl o5.1 o5.2 ?_
        refine wg_callS (I' := mX6_sumOfWeights) (np := 2) (d' := d) (as := [vR p1, vI (gI M13 33 s2.toNat)]) (st := [vI s2, vR 34]) dX6_fillFrom_116 lk_X6_56 ci_X6_sumOfWeights rfl rfl (Nat.le_of_ble_eq_true rfl) (Nat.le_refl _) ⟨Nat.le_refl _, Nat.le_refl _⟩ h (fun v M14 h => ?_)
        obtain ⟨r15, rfl, hS, h⟩ := h
        refine wg_iast dX6_fillFrom_119 rfl o5.1 o5.2 ?_
        generalize hM : stI M14 34 s2.toNat r15 = M16
        replace h := h _ hM.symm
        replace hS : ShX M16 := by rw [← hM]; exact hS
        clear hM
        obtain ⟨o, h⟩ := h
        refine wg_iinc (L' := [some (vR 30), some (vR p1), some (vI (s2 + 1))]) dX6_fillFrom_120 (Nat.le_of_ble_eq_true rfl) rfl rfl o ?_
        refine wg_goto dX6_fillFrom_123 rfl ?_
        exact h
      · replace h := h.2 c7
        refine wg_iload_n dX6_fillFrom_53 rfl ?_
        refine wg_callS (I' := mJ6_bitCount_0f7a4) (np := 1) (d' := d) (as := [vI s2]) (st := [vI s2, vR 32]) dX6_fillFrom_54 lk_X6_41 ci_J6_bitCount_0f7a4 rfl rfl (Nat.le_of_ble_eq_true rfl) (Nat.le_refl _) ⟨Nat.le_refl _, Nat.le_refl _⟩ h (fun v M17 h => ?_)
        obtain ⟨r18, rfl, hS, h⟩ := h
        refine wg_iconst dX6_fillFrom_57 qiconst_1 ?_
        refine wg_icmp_ne dX6_fillFrom_58 rfl (fun c19 => ?_) (fun c19 => ?_)
        · replace h := h.1 c19
          refine wg_aload_n dX6_fillFrom_69 rfl (Nat.succ_ne_zero _) ?_
          refine wg_iload_n dX6_fillFrom_70 rfl ?_
          refine wg_iload_n dX6_fillFrom_71 rfl ?_
          obtain ⟨o, h⟩ := h
          refine wg_ineg dX6_fillFrom_72 o ?_
          refine wg_iand dX6_fillFrom_73 ?_
          refine wg_callV (I' := mX6_followersOf) (ci := 6) (np := 1) (d' := d) (q := 30) (as := [vI (iandv s2 (-s2))]) (st := [vI s2, vR 32]) dX6_fillFrom_74 lk_X6_50 ci_X6_followersOf rfl (Nat.le_of_ble_eq_true rfl) rfl rfl (Nat.le_of_ble_eq_true rfl) rfl (Nat.le_refl _) ⟨Nat.le_refl _, Nat.le_refl _⟩ h (fun v M20 h => ?_)
          obtain ⟨r21, rfl, hS, h⟩ := h
          refine wg_aload_n dX6_fillFrom_77 rfl (Nat.succ_ne_zero _) ?_
          refine wg_iload_n dX6_fillFrom_78 rfl ?_
          refine wg_iload_n dX6_fillFrom_79 rfl ?_
          refine wg_iconst dX6_fillFrom_80 qiconst_1 ?_
          obtain ⟨o, h⟩ := h
          refine wg_isub dX6_fillFrom_81 o ?_
          refine wg_iand dX6_fillFrom_82 ?_
          refine wg_callV (I' := mX6_followersOf) (ci := 6) (np := 1) (d' := d) (q := 30) (as := [vI (iandv s2 (s2 - 1))]) (st := [vI r21, vI s2, vR 32]) dX6_fillFrom_83 lk_X6_50 ci_X6_followersOf rfl (Nat.le_of_ble_eq_true rfl) rfl rfl (Nat.le_of_ble_eq_true rfl) rfl (Nat.le_refl _) ⟨Nat.le_refl _, Nat.le_refl _⟩ h (fun v M22 h => ?_)
          obtain ⟨r23, rfl, hS, h⟩ := h
          refine wg_ior dX6_fillFrom_86 ?_
          refine wg_iast dX6_fillFrom_87 rfl o5.1 o5.2 ?_
          generalize hM : stI M22 32 s2.toNat (iorv r21 r23) = M24
          replace h := h _ hM.symm
          replace hS : ShX M24 := by rw [← hM]; exact hS
          clear hM
          refine wg_aload_n dX6_fillFrom_88 rfl (Nat.succ_ne_zero _) ?_
          refine wg_getRe dX6_fillFrom_89 (fl_X6_22 rfl) rfl rfl (x30 hS 3 (r := 33) (Nat.le_of_ble_eq_true rfl) (Nat.le_of_ble_eq_true rfl) rfl) ?_
          refine wg_iload_n dX6_fillFrom_92 rfl ?_
          refine wg_aload_n dX6_fillFrom_93 rfl (kn7 hk1) ?_
          refine wg_aload_n dX6_fillFrom_94 rfl (Nat.succ_ne_zero _) ?_
          refine wg_getRe dX6_fillFrom_95 (fl_X6_19 rfl) rfl rfl (x30 hS 2 (r := 32) (Nat.le_of_ble_eq_true rfl) (Nat.le_of_ble_eq_true rfl) rfl) ?_
          refine wg_iload_n dX6_fillFrom_98 rfl ?_
          refine wg_iald dX6_fillFrom_99 rfl o5.1 o5.2 ?_
          refine wg_callS (I' := mX6_thoseWhoMiss) (np := 2) (d' := d) (as := [vR p1, vI (gI M24 32 s2.toNat)]) (st := [vI s2, vR 33]) dX6_fillFrom_100 lk_X6_53 ci_X6_thoseWhoMiss rfl rfl (Nat.le_of_ble_eq_true rfl) (Nat.le_refl _) ⟨Nat.le_refl _, Nat.le_refl _⟩ h (fun v M25 h => ?_)
          obtain ⟨r26, rfl, hS, h⟩ := h
          refine wg_iast dX6_fillFrom_103 rfl o5.1 o5.2 ?_
          generalize hM : stI M25 33 s2.toNat r26 = M27
          replace h := h _ hM.symm
          replace hS : ShX M27 := by rw [← hM]; exact hS
          clear hM
          refine wg_aload_n dX6_fillFrom_104 rfl (Nat.succ_ne_zero _) ?_
          refine wg_getRe dX6_fillFrom_105 (fl_X6_25 rfl) rfl rfl (x30 hS 4 (r := 34) (Nat.le_of_ble_eq_true rfl) (Nat.le_of_ble_eq_true rfl) rfl) ?_
          refine wg_iload_n dX6_fillFrom_108 rfl ?_
          refine wg_aload_n dX6_fillFrom_109 rfl (kn7 hk1) ?_
          refine wg_aload_n dX6_fillFrom_110 rfl (Nat.succ_ne_zero _) ?_
          refine wg_getRe dX6_fillFrom_111 (fl_X6_22 rfl) rfl rfl (x30 hS 3 (r := 33) (Nat.le_of_ble_eq_true rfl) (Nat.le_of_ble_eq_true rfl) rfl) ?_
          refine wg_iload_n dX6_fillFrom_114 rfl ?_
          refine wg_iald dX6_fillFrom_115 rfl o5.1 o5.2 ?_
          refine wg_callS (I' := mX6_sumOfWeights) (np := 2) (d' := d) (as := [vR p1, vI (gI M27 33 s2.toNat)]) (st := [vI s2, vR 34]) dX6_fillFrom_116 lk_X6_56 ci_X6_sumOfWeights rfl rfl (Nat.le_of_ble_eq_true rfl) (Nat.le_refl _) ⟨Nat.le_refl _, Nat.le_refl _⟩ h (fun v M28 h => ?_)
          obtain ⟨r29, rfl, hS, h⟩ := h
          refine wg_iast dX6_fillFrom_119 rfl o5.1 o5.2 ?_
          generalize hM : stI M28 34 s2.toNat r29 = M30
          replace h := h _ hM.symm
          replace hS : ShX M30 := by rw [← hM]; exact hS
          clear hM
          obtain ⟨o, h⟩ := h
          refine wg_iinc (L' := [some (vR 30), some (vR p1), some (vI (s2 + 1))]) dX6_fillFrom_120 (Nat.le_of_ble_eq_true rfl) rfl rfl o ?_
          refine wg_goto dX6_fillFrom_123 rfl ?_
          exact h
        · replace h := h.2 c19
          refine wg_aload_n dX6_fillFrom_61 rfl (kn7 hk1) ?_
          refine wg_iload_n dX6_fillFrom_62 rfl ?_
          refine wg_callS (I' := mX6_spread) (np := 2) (d' := d) (as := [vR p1, vI s2]) (st := [vI s2, vR 32]) dX6_fillFrom_63 lk_X6_47 ci_X6_spread rfl rfl (Nat.le_of_ble_eq_true rfl) (Nat.le_refl _) ⟨Nat.le_refl _, Nat.le_refl _⟩ h (fun v M31 h => ?_)
          obtain ⟨r32, rfl, hS, h⟩ := h
          refine wg_goto dX6_fillFrom_66 rfl ?_
          refine wg_iast dX6_fillFrom_87 rfl o5.1 o5.2 ?_
          generalize hM : stI M31 32 s2.toNat r32 = M33
          replace h := h _ hM.symm
          replace hS : ShX M33 := by rw [← hM]; exact hS
          clear hM
          refine wg_aload_n dX6_fillFrom_88 rfl (Nat.succ_ne_zero _) ?_
          refine wg_getRe dX6_fillFrom_89 (fl_X6_22 rfl) rfl rfl (x30 hS 3 (r := 33) (Nat.le_of_ble_eq_true rfl) (Nat.le_of_ble_eq_true rfl) rfl) ?_
          refine wg_iload_n dX6_fillFrom_92 rfl ?_
          refine wg_aload_n dX6_fillFrom_93 rfl (kn7 hk1) ?_
          refine wg_aload_n dX6_fillFrom_94 rfl (Nat.succ_ne_zero _) ?_
          refine wg_getRe dX6_fillFrom_95 (fl_X6_19 rfl) rfl rfl (x30 hS 2 (r := 32) (Nat.le_of_ble_eq_true rfl) (Nat.le_of_ble_eq_true rfl) rfl) ?_
          refine wg_iload_n dX6_fillFrom_98 rfl ?_
          refine wg_iald dX6_fillFrom_99 rfl o5.1 o5.2 ?_
          refine wg_callS (I' := mX6_thoseWhoMiss) (np := 2) (d' := d) (as := [vR p1, vI (gI M33 32 s2.toNat)]) (st := [vI s2, vR 33]) dX6_fillFrom_100 lk_X6_53 ci_X6_thoseWhoMiss rfl rfl (Nat.le_of_ble_eq_true rfl) (Nat.le_refl _) ⟨Nat.le_refl _, Nat.le_refl _⟩ h (fun v M34 h => ?_)
          obtain ⟨r35, rfl, hS, h⟩ := h
          refine wg_iast dX6_fillFrom_103 rfl o5.1 o5.2 ?_
          generalize hM : stI M34 33 s2.toNat r35 = M36
          replace h := h _ hM.symm
          replace hS : ShX M36 := by rw [← hM]; exact hS
          clear hM
          refine wg_aload_n dX6_fillFrom_104 rfl (Nat.succ_ne_zero _) ?_
          refine wg_getRe dX6_fillFrom_105 (fl_X6_25 rfl) rfl rfl (x30 hS 4 (r := 34) (Nat.le_of_ble_eq_true rfl) (Nat.le_of_ble_eq_true rfl) rfl) ?_
          refine wg_iload_n dX6_fillFrom_108 rfl ?_
          refine wg_aload_n dX6_fillFrom_109 rfl (kn7 hk1) ?_
          refine wg_aload_n dX6_fillFrom_110 rfl (Nat.succ_ne_zero _) ?_
          refine wg_getRe dX6_fillFrom_111 (fl_X6_22 rfl) rfl rfl (x30 hS 3 (r := 33) (Nat.le_of_ble_eq_true rfl) (Nat.le_of_ble_eq_true rfl) rfl) ?_
          refine wg_iload_n dX6_fillFrom_114 rfl ?_
          refine wg_iald dX6_fillFrom_115 rfl o5.1 o5.2 ?_
          refine wg_callS (I' := mX6_sumOfWeights) (np := 2) (d' := d) (as := [vR p1, vI (gI M36 33 s2.toNat)]) (st := [vI s2, vR 34]) dX6_fillFrom_116 lk_X6_56 ci_X6_sumOfWeights rfl rfl (Nat.le_of_ble_eq_true rfl) (Nat.le_refl _) ⟨Nat.le_refl _, Nat.le_refl _⟩ h (fun v M37 h => ?_)
          obtain ⟨r38, rfl, hS, h⟩ := h
          refine wg_iast dX6_fillFrom_119 rfl o5.1 o5.2 ?_
          generalize hM : stI M37 34 s2.toNat r38 = M39
          replace h := h _ hM.symm
          replace hS : ShX M39 := by rw [← hM]; exact hS
          clear hM
          obtain ⟨o, h⟩ := h
          refine wg_iinc (L' := [some (vR 30), some (vR p1), some (vI (s2 + 1))]) dX6_fillFrom_120 (Nat.le_of_ble_eq_true rfl) rfl rfl o ?_
          refine wg_goto dX6_fillFrom_123 rfl ?_
          exact h
set_option maxRecDepth 100000 in
theorem bX6_sumOfStrength_0 {G : GG} {d : Nat} {M : MM} {Q : Option AV → MM → Prop} (p0 : Nat) (hk0 : kd p0 = 7) (a1 : Int) (hS : ShX M) (h :
Ok G mJ6_bitCount_0f7a4 d 0 0 [vI (iandv a1 (gI M p0 5))] M (fun v M1 => ∃ r2 : Int, v = some (vI r2) ∧ ShX M1 ∧ 
(Wp G mX6_sumOfStrength (d + 1) 0 0 27 [some (vR p0), some (vI a1), some (vI (iandv a1 (gI M p0 5))), some (vI (if r2 ≤ 1 then (0 : Int) else 1)), some (vI 0), some (vI 0), none] [] M1 0 0 Q))) :
  Wp G mX6_sumOfStrength (d + 1) 0 0 0 [some (vR p0), some (vI a1), none, none, none, none, none] [] M 0 0 Q := by
  refine wg_iload_n dX6_sumOfStrength_0 rfl ?_
  refine wg_aload_n dX6_sumOfStrength_1 rfl (kn7 hk0) ?_
  refine wg_getI dX6_sumOfStrength_2 (fl_X6_59 rfl) rfl hk0 ?_
  refine wg_iand dX6_sumOfStrength_5 ?_
  refine wg_istore_n (L' := [some (vR p0), some (vI a1), some (vI (iandv a1 (gI M p0 5))), none, none, none, none]) dX6_sumOfStrength_6 (Nat.le_of_ble_eq_true rfl) rfl ?_
  refine wg_iload_n dX6_sumOfStrength_7 rfl ?_
  refine wg_callS (I' := mJ6_bitCount_0f7a4) (np := 1) (d' := d) (as := [vI (iandv a1 (gI M p0 5))]) (st := []) dX6_sumOfStrength_8 lk_X6_41 ci_J6_bitCount_0f7a4 rfl rfl (Nat.le_of_ble_eq_true rfl) (Nat.le_refl _) ⟨Nat.le_refl _, Nat.le_refl _⟩ h (fun v M1 h => ?_)
  obtain ⟨r2, rfl, hS, h⟩ := h
  refine wg_iconst dX6_sumOfStrength_11 qiconst_1 ?_
  have hJ4 : Wp G mX6_sumOfStrength (d + 1) 0 0 20 [some (vR p0), some (vI a1), some (vI (iandv a1 (gI M p0 5))), none, none, none, none] [vI (if r2 ≤ 1 then (0 : Int) else 1)] M1 0 0 Q := by
    refine wg_istore_n (L' := [some (vR p0), some (vI a1), some (vI (iandv a1 (gI M p0 5))), some (vI (if r2 ≤ 1 then (0 : Int) else 1)), none, none, none]) dX6_sumOfStrength_20 (Nat.le_of_ble_eq_true rfl) rfl ?_
    refine wg_iconst dX6_sumOfStrength_21 qiconst_0 ?_
    refine wg_istore (L' := [some (vR p0), some (vI a1), some (vI (iandv a1 (gI M p0 5))), some (vI (if r2 ≤ 1 then (0 : Int) else 1)), some (vI 0), none, none]) dX6_sumOfStrength_22 (Nat.le_of_ble_eq_true rfl) rfl ?_
    refine wg_iconst dX6_sumOfStrength_24 qiconst_0 ?_
    refine wg_istore (L' := [some (vR p0), some (vI a1), some (vI (iandv a1 (gI M p0 5))), some (vI (if r2 ≤ 1 then (0 : Int) else 1)), some (vI 0), some (vI 0), none]) dX6_sumOfStrength_25 (Nat.le_of_ble_eq_true rfl) rfl ?_
    exact h
  refine wg_icmp_le dX6_sumOfStrength_12 rfl (fun c3 => ?_) (fun c3 => ?_)
  · rw [show (if r2 ≤ 1 then (0 : Int) else 1) = 0 from if_pos c3] at hJ4
    refine wg_iconst dX6_sumOfStrength_19 qiconst_0 ?_
    exact hJ4
  · rw [show (if r2 ≤ 1 then (0 : Int) else 1) = 1 from if_neg c3] at hJ4
    refine wg_iconst dX6_sumOfStrength_15 qiconst_1 ?_
    refine wg_goto dX6_sumOfStrength_16 rfl ?_
    exact hJ4
set_option maxRecDepth 100000 in
theorem bX6_sumOfStrength_27 {G : GG} {d : Nat} {M : MM} {Q : Option AV → MM → Prop} (p0 : Nat) (hk0 : kd p0 = 7) (a1 : Int) (s2 : Int) (s3 : Int) (s4 : Int) (s5 : Int) (hS : ShX M) (h :
((gI M p0 0) ≤ s5 →
(Q (some (vI s4)) M)) ∧
(¬ ((gI M p0 0) ≤ s5) →
(((iandv (ishrv a1 s5) 1) ≠ 1 →
(R32 (s5 + 1) ∧
(Wp G mX6_sumOfStrength (d + 1) 0 0 27 [some (vR p0), some (vI a1), some (vI s2), some (vI s3), some (vI s4), some (vI (s5 + 1)), none] [] M 0 0 Q))) ∧
((iandv (ishrv a1 s5) 1) = 1 →
((s3 = 0 →
(Ok G mX7_strengthOfThing d 0 0 [vR p0, vI s5] M (fun v M4 => ∃ r5 : Int, v = some (vI r5) ∧ ShX M4 ∧ 
(R32 (1 * r5) ∧
(R32 (s4 + (1 * r5)) ∧
(R32 (s5 + 1) ∧
(Wp G mX6_sumOfStrength (d + 1) 0 0 27 [some (vR p0), some (vI a1), some (vI s2), some (vI s3), some (vI (s4 + (1 * r5))), some (vI (s5 + 1)), none] [] M4 0 0 Q))))))) ∧
(¬ (s3 = 0) →
(Ok G mX7_strengthOfThing d 0 0 [vR p0, vI s5] M (fun v M8 => ∃ r9 : Int, v = some (vI r9) ∧ ShX M8 ∧ 
(R32 ((if (if (iandv (ishrv s2 s5) 1) = 1 then (1 : Int) else 0) = 0 then (1 : Int) else 2) * r9) ∧
(R32 (s4 + ((if (if (iandv (ishrv s2 s5) 1) = 1 then (1 : Int) else 0) = 0 then (1 : Int) else 2) * r9)) ∧
(R32 (s5 + 1) ∧
(Wp G mX6_sumOfStrength (d + 1) 0 0 27 [some (vR p0), some (vI a1), some (vI s2), some (vI s3), some (vI (s4 + ((if (if (iandv (ishrv s2 s5) 1) = 1 then (1 : Int) else 0) = 0 then (1 : Int) else 2) * r9))), some (vI (s5 + 1)), none] [] M8 0 0 Q)))))))))))) :
  Wp G mX6_sumOfStrength (d + 1) 0 0 27 [some (vR p0), some (vI a1), some (vI s2), some (vI s3), some (vI s4), some (vI s5), none] [] M 0 0 Q := by
  refine wg_iload dX6_sumOfStrength_27 rfl ?_
  refine wg_aload_n dX6_sumOfStrength_29 rfl (kn7 hk0) ?_
  refine wg_getI dX6_sumOfStrength_30 (fl_X6_28 rfl) rfl hk0 ?_
  refine wg_icmp_ge dX6_sumOfStrength_33 rfl (fun c1 => ?_) (fun c1 => ?_)
  · replace h := h.1 c1
    refine wg_iload dX6_sumOfStrength_95 rfl ?_
    exact wp_iret rfl dX6_sumOfStrength_97 ⟨Nat.le_refl _, Nat.le_refl _⟩ h
  · replace h := h.2 c1
    refine wg_iload_n dX6_sumOfStrength_36 rfl ?_
    refine wg_iload dX6_sumOfStrength_37 rfl ?_
    refine wg_ishr dX6_sumOfStrength_39 ?_
    refine wg_iconst dX6_sumOfStrength_40 qiconst_1 ?_
    refine wg_iand dX6_sumOfStrength_41 ?_
    refine wg_iconst dX6_sumOfStrength_42 qiconst_1 ?_
    refine wg_icmp_ne dX6_sumOfStrength_43 rfl (fun c2 => ?_) (fun c2 => ?_)
    · replace h := h.1 c2
      obtain ⟨o, h⟩ := h
      refine wg_iinc (L' := [some (vR p0), some (vI a1), some (vI s2), some (vI s3), some (vI s4), some (vI (s5 + 1)), none]) dX6_sumOfStrength_89 (Nat.le_of_ble_eq_true rfl) rfl rfl o ?_
      refine wg_goto dX6_sumOfStrength_92 rfl ?_
      exact h
    · replace h := h.2 c2
      refine wg_iload_n dX6_sumOfStrength_46 rfl ?_
      refine wg_if_eq dX6_sumOfStrength_47 rfl (fun c3 => ?_) (fun c3 => ?_)
      · replace h := h.1 c3
        refine wg_iconst dX6_sumOfStrength_64 qiconst_0 ?_
        refine wg_istore (L' := [some (vR p0), some (vI a1), some (vI s2), some (vI s3), some (vI s4), some (vI s5), some (vI 0)]) dX6_sumOfStrength_65 (Nat.le_of_ble_eq_true rfl) rfl ?_
        refine wg_iload dX6_sumOfStrength_67 rfl ?_
        refine wg_iload dX6_sumOfStrength_69 rfl ?_
        refine wg_if_eq dX6_sumOfStrength_71 rfl (fun _ => ?_) (fun c => absurd c (by decide))
        refine wg_iconst dX6_sumOfStrength_78 qiconst_1 ?_
        refine wg_aload_n dX6_sumOfStrength_79 rfl (kn7 hk0) ?_
        refine wg_iload dX6_sumOfStrength_80 rfl ?_
        refine wg_callV (I' := mX7_strengthOfThing) (ci := 7) (np := 1) (d' := d) (q := p0) (as := [vI s5]) (st := [vI 1, vI s4]) dX6_sumOfStrength_82 lk_X6_62 ci_X7_strengthOfThing rfl (Nat.le_of_ble_eq_true rfl) rfl rfl (Nat.le_of_ble_eq_true rfl) hk0 (Nat.le_refl _) ⟨Nat.le_refl _, Nat.le_refl _⟩ h (fun v M4 h => ?_)
        obtain ⟨r5, rfl, hS, h⟩ := h
        obtain ⟨o, h⟩ := h
        refine wg_imul dX6_sumOfStrength_85 o ?_
        obtain ⟨o, h⟩ := h
        refine wg_iadd dX6_sumOfStrength_86 o ?_
        refine wg_istore (L' := [some (vR p0), some (vI a1), some (vI s2), some (vI s3), some (vI (s4 + (1 * r5))), some (vI s5), some (vI 0)]) dX6_sumOfStrength_87 (Nat.le_of_ble_eq_true rfl) rfl ?_
        obtain ⟨o, h⟩ := h
        refine wg_iinc (L' := [some (vR p0), some (vI a1), some (vI s2), some (vI s3), some (vI (s4 + (1 * r5))), some (vI (s5 + 1)), some (vI 0)]) dX6_sumOfStrength_89 (Nat.le_of_ble_eq_true rfl) rfl rfl o ?_
        refine wg_goto dX6_sumOfStrength_92 rfl ?_
        refine wg_weak [true, true, true, true, true, true, false] rfl ?_
        exact h
      · replace h := h.2 c3
        refine wg_iload_n dX6_sumOfStrength_50 rfl ?_
        refine wg_iload dX6_sumOfStrength_51 rfl ?_
        refine wg_ishr dX6_sumOfStrength_53 ?_
        refine wg_iconst dX6_sumOfStrength_54 qiconst_1 ?_
        refine wg_iand dX6_sumOfStrength_55 ?_
        refine wg_iconst dX6_sumOfStrength_56 qiconst_1 ?_
        have hJ11 : Wp G mX6_sumOfStrength (d + 1) 0 0 65 [some (vR p0), some (vI a1), some (vI s2), some (vI s3), some (vI s4), some (vI s5), none] [vI (if (iandv (ishrv s2 s5) 1) = 1 then (1 : Int) else 0)] M 0 0 Q := by
          refine wg_istore (L' := [some (vR p0), some (vI a1), some (vI s2), some (vI s3), some (vI s4), some (vI s5), some (vI (if (iandv (ishrv s2 s5) 1) = 1 then (1 : Int) else 0))]) dX6_sumOfStrength_65 (Nat.le_of_ble_eq_true rfl) rfl ?_
          refine wg_iload dX6_sumOfStrength_67 rfl ?_
          refine wg_iload dX6_sumOfStrength_69 rfl ?_
          have hJ10 : Wp G mX6_sumOfStrength (d + 1) 0 0 79 [some (vR p0), some (vI a1), some (vI s2), some (vI s3), some (vI s4), some (vI s5), some (vI (if (iandv (ishrv s2 s5) 1) = 1 then (1 : Int) else 0))] [vI (if (if (iandv (ishrv s2 s5) 1) = 1 then (1 : Int) else 0) = 0 then (1 : Int) else 2), vI s4] M 0 0 Q := by
            refine wg_aload_n dX6_sumOfStrength_79 rfl (kn7 hk0) ?_
            refine wg_iload dX6_sumOfStrength_80 rfl ?_
            refine wg_callV (I' := mX7_strengthOfThing) (ci := 7) (np := 1) (d' := d) (q := p0) (as := [vI s5]) (st := [vI (if (if (iandv (ishrv s2 s5) 1) = 1 then (1 : Int) else 0) = 0 then (1 : Int) else 2), vI s4]) dX6_sumOfStrength_82 lk_X6_62 ci_X7_strengthOfThing rfl (Nat.le_of_ble_eq_true rfl) rfl rfl (Nat.le_of_ble_eq_true rfl) hk0 (Nat.le_refl _) ⟨Nat.le_refl _, Nat.le_refl _⟩ h (fun v M8 h => ?_)
            obtain ⟨r9, rfl, hS, h⟩ := h
            obtain ⟨o, h⟩ := h
            refine wg_imul dX6_sumOfStrength_85 o ?_
            obtain ⟨o, h⟩ := h
            refine wg_iadd dX6_sumOfStrength_86 o ?_
            refine wg_istore (L' := [some (vR p0), some (vI a1), some (vI s2), some (vI s3), some (vI (s4 + ((if (if (iandv (ishrv s2 s5) 1) = 1 then (1 : Int) else 0) = 0 then (1 : Int) else 2) * r9))), some (vI s5), some (vI (if (iandv (ishrv s2 s5) 1) = 1 then (1 : Int) else 0))]) dX6_sumOfStrength_87 (Nat.le_of_ble_eq_true rfl) rfl ?_
            obtain ⟨o, h⟩ := h
            refine wg_iinc (L' := [some (vR p0), some (vI a1), some (vI s2), some (vI s3), some (vI (s4 + ((if (if (iandv (ishrv s2 s5) 1) = 1 then (1 : Int) else 0) = 0 then (1 : Int) else 2) * r9))), some (vI (s5 + 1)), some (vI (if (iandv (ishrv s2 s5) 1) = 1 then (1 : Int) else 0))]) dX6_sumOfStrength_89 (Nat.le_of_ble_eq_true rfl) rfl rfl o ?_
            refine wg_goto dX6_sumOfStrength_92 rfl ?_
            refine wg_weak [true, true, true, true, true, true, false] rfl ?_
            exact h
          refine wg_if_eq dX6_sumOfStrength_71 rfl (fun c7 => ?_) (fun c7 => ?_)
          · rw [show (if (if (iandv (ishrv s2 s5) 1) = 1 then (1 : Int) else 0) = 0 then (1 : Int) else 2) = 1 from if_pos c7] at hJ10
            refine wg_iconst dX6_sumOfStrength_78 qiconst_1 ?_
            exact hJ10
          · rw [show (if (if (iandv (ishrv s2 s5) 1) = 1 then (1 : Int) else 0) = 0 then (1 : Int) else 2) = 2 from if_neg c7] at hJ10
            refine wg_iconst dX6_sumOfStrength_74 qiconst_2 ?_
            refine wg_goto dX6_sumOfStrength_75 rfl ?_
            exact hJ10
        refine wg_icmp_ne dX6_sumOfStrength_57 rfl (fun c6 => ?_) (fun c6 => ?_)
        · rw [show (if (iandv (ishrv s2 s5) 1) = 1 then (1 : Int) else 0) = 0 from if_neg c6] at hJ11
          refine wg_iconst dX6_sumOfStrength_64 qiconst_0 ?_
          exact hJ11
        · rw [show (if (iandv (ishrv s2 s5) 1) = 1 then (1 : Int) else 0) = 1 from if_pos c6] at hJ11
          refine wg_iconst dX6_sumOfStrength_60 qiconst_1 ?_
          refine wg_goto dX6_sumOfStrength_61 rfl ?_
          exact hJ11
set_option maxRecDepth 100000 in
theorem bX6_spread_0 {G : GG} {d : Nat} {M : MM} {Q : Option AV → MM → Prop} (p0 : Nat) (hk0 : kd p0 = 7) (a1 : Int) (hS : ShX M) (h :
Wp G mX6_spread (d + 1) 0 0 4 [some (vR p0), none, some (vI a1), some (vI 0), none] [] M 0 0 Q) :
  Wp G mX6_spread (d + 1) 0 0 0 [some (vR p0), some (vI a1), none, none, none] [] M 0 0 Q := by
  refine wg_iload_n dX6_spread_0 rfl ?_
  refine wg_istore_n (L' := [some (vR p0), some (vI a1), some (vI a1), none, none]) dX6_spread_1 (Nat.le_of_ble_eq_true rfl) rfl ?_
  refine wg_iconst dX6_spread_2 qiconst_0 ?_
  refine wg_istore_n (L' := [some (vR p0), some (vI a1), some (vI a1), some (vI 0), none]) dX6_spread_3 (Nat.le_of_ble_eq_true rfl) rfl ?_
  refine wg_weak [true, false, true, true, false] rfl ?_
  exact h
set_option maxRecDepth 100000 in
theorem bX6_spread_4 {G : GG} {d : Nat} {M : MM} {Q : Option AV → MM → Prop} (p0 : Nat) (hk0 : kd p0 = 7) (s2 : Int) (s3 : Int) (hS : ShX M) (h :
((gI M p0 0) ≤ s3 →
(Q (some (vI s2)) M)) ∧
(¬ ((gI M p0 0) ≤ s3) →
(Wp G mX6_spread (d + 1) 0 0 15 [some (vR p0), none, some (vI s2), some (vI s3), some (vI 0)] [] M 0 0 Q))) :
  Wp G mX6_spread (d + 1) 0 0 4 [some (vR p0), none, some (vI s2), some (vI s3), none] [] M 0 0 Q := by
  refine wg_iload_n dX6_spread_4 rfl ?_
  refine wg_aload_n dX6_spread_5 rfl (kn7 hk0) ?_
  refine wg_getI dX6_spread_6 (fl_X6_28 rfl) rfl hk0 ?_
  refine wg_icmp_ge dX6_spread_9 rfl (fun c1 => ?_) (fun c1 => ?_)
  · replace h := h.1 c1
    refine wg_iload_n dX6_spread_61 rfl ?_
    exact wp_iret rfl dX6_spread_62 ⟨Nat.le_refl _, Nat.le_refl _⟩ h
  · replace h := h.2 c1
    refine wg_iconst dX6_spread_12 qiconst_0 ?_
    refine wg_istore (L' := [some (vR p0), none, some (vI s2), some (vI s3), some (vI 0)]) dX6_spread_13 (Nat.le_of_ble_eq_true rfl) rfl ?_
    exact h
set_option maxRecDepth 100000 in
theorem bX6_spread_15 {G : GG} {d : Nat} {M : MM} {Q : Option AV → MM → Prop} (p0 : Nat) (hk0 : kd p0 = 7) (s2 : Int) (s3 : Int) (s4 : Int) (hS : ShX M) (h :
((gI M p0 1) ≤ s4 →
(R32 (s3 + 1) ∧
(Wp G mX6_spread (d + 1) 0 0 4 [some (vR p0), none, some (vI s2), some (vI (s3 + 1)), none] [] M 0 0 Q))) ∧
(¬ ((gI M p0 1) ≤ s4) →
(Ok G mX7_neededOf d 0 0 [vR p0, vI s4] M (fun v M2 => ∃ r3 : Int, v = some (vI r3) ∧ ShX M2 ∧ 
(((iandv (ishrv s2 r3) 1) ≠ 1 →
(R32 (s4 + 1) ∧
(Wp G mX6_spread (d + 1) 0 0 15 [some (vR p0), none, some (vI s2), some (vI s3), some (vI (s4 + 1))] [] M2 0 0 Q))) ∧
((iandv (ishrv s2 r3) 1) = 1 →
(Ok G mX7_neederOf d 0 0 [vR p0, vI s4] M2 (fun v M5 => ∃ r6 : Int, v = some (vI r6) ∧ ShX M5 ∧ 
(R32 (s4 + 1) ∧
(Wp G mX6_spread (d + 1) 0 0 15 [some (vR p0), none, some (vI (iorv s2 (ishlv 1 r6))), some (vI s3), some (vI (s4 + 1))] [] M5 0 0 Q)))))))))) :
  Wp G mX6_spread (d + 1) 0 0 15 [some (vR p0), none, some (vI s2), some (vI s3), some (vI s4)] [] M 0 0 Q := by
  refine wg_iload dX6_spread_15 rfl ?_
  refine wg_aload_n dX6_spread_17 rfl (kn7 hk0) ?_
  refine wg_getI dX6_spread_18 (fl_X6_65 rfl) rfl hk0 ?_
  refine wg_icmp_ge dX6_spread_21 rfl (fun c1 => ?_) (fun c1 => ?_)
  · replace h := h.1 c1
    obtain ⟨o, h⟩ := h
    refine wg_iinc (L' := [some (vR p0), none, some (vI s2), some (vI (s3 + 1)), some (vI s4)]) dX6_spread_55 (Nat.le_of_ble_eq_true rfl) rfl rfl o ?_
    refine wg_goto dX6_spread_58 rfl ?_
    refine wg_weak [true, false, true, true, false] rfl ?_
    exact h
  · replace h := h.2 c1
    refine wg_iload_n dX6_spread_24 rfl ?_
    refine wg_aload_n dX6_spread_25 rfl (kn7 hk0) ?_
    refine wg_iload dX6_spread_26 rfl ?_
    refine wg_callV (I' := mX7_neededOf) (ci := 7) (np := 1) (d' := d) (q := p0) (as := [vI s4]) (st := [vI s2]) dX6_spread_28 lk_X6_68 ci_X7_neededOf rfl (Nat.le_of_ble_eq_true rfl) rfl rfl (Nat.le_of_ble_eq_true rfl) hk0 (Nat.le_refl _) ⟨Nat.le_refl _, Nat.le_refl _⟩ h (fun v M2 h => ?_)
    obtain ⟨r3, rfl, hS, h⟩ := h
    refine wg_ishr dX6_spread_31 ?_
    refine wg_iconst dX6_spread_32 qiconst_1 ?_
    refine wg_iand dX6_spread_33 ?_
    refine wg_iconst dX6_spread_34 qiconst_1 ?_
    refine wg_icmp_ne dX6_spread_35 rfl (fun c4 => ?_) (fun c4 => ?_)
    · replace h := h.1 c4
      obtain ⟨o, h⟩ := h
      refine wg_iinc (L' := [some (vR p0), none, some (vI s2), some (vI s3), some (vI (s4 + 1))]) dX6_spread_49 (Nat.le_of_ble_eq_true rfl) rfl rfl o ?_
      refine wg_goto dX6_spread_52 rfl ?_
      exact h
    · replace h := h.2 c4
      refine wg_iload_n dX6_spread_38 rfl ?_
      refine wg_iconst dX6_spread_39 qiconst_1 ?_
      refine wg_aload_n dX6_spread_40 rfl (kn7 hk0) ?_
      refine wg_iload dX6_spread_41 rfl ?_
      refine wg_callV (I' := mX7_neederOf) (ci := 7) (np := 1) (d' := d) (q := p0) (as := [vI s4]) (st := [vI 1, vI s2]) dX6_spread_43 lk_X6_71 ci_X7_neederOf rfl (Nat.le_of_ble_eq_true rfl) rfl rfl (Nat.le_of_ble_eq_true rfl) hk0 (Nat.le_refl _) ⟨Nat.le_refl _, Nat.le_refl _⟩ h (fun v M5 h => ?_)
      obtain ⟨r6, rfl, hS, h⟩ := h
      refine wg_ishl dX6_spread_46 ?_
      refine wg_ior dX6_spread_47 ?_
      refine wg_istore_n (L' := [some (vR p0), none, some (vI (iorv s2 (ishlv 1 r6))), some (vI s3), some (vI s4)]) dX6_spread_48 (Nat.le_of_ble_eq_true rfl) rfl ?_
      obtain ⟨o, h⟩ := h
      refine wg_iinc (L' := [some (vR p0), none, some (vI (iorv s2 (ishlv 1 r6))), some (vI s3), some (vI (s4 + 1))]) dX6_spread_49 (Nat.le_of_ble_eq_true rfl) rfl rfl o ?_
      refine wg_goto dX6_spread_52 rfl ?_
      exact h
set_option maxRecDepth 100000 in
theorem bX6_thoseWhoMiss_0 {G : GG} {d : Nat} {M : MM} {Q : Option AV → MM → Prop} (p0 : Nat) (hk0 : kd p0 = 7) (a1 : Int) (hS : ShX M) (h :
Wp G mX6_thoseWhoMiss (d + 1) 0 0 4 [some (vR p0), some (vI a1), some (vI 0), some (vI 0)] [] M 0 0 Q) :
  Wp G mX6_thoseWhoMiss (d + 1) 0 0 0 [some (vR p0), some (vI a1), none, none] [] M 0 0 Q := by
  refine wg_iconst dX6_thoseWhoMiss_0 qiconst_0 ?_
  refine wg_istore_n (L' := [some (vR p0), some (vI a1), some (vI 0), none]) dX6_thoseWhoMiss_1 (Nat.le_of_ble_eq_true rfl) rfl ?_
  refine wg_iconst dX6_thoseWhoMiss_2 qiconst_0 ?_
  refine wg_istore_n (L' := [some (vR p0), some (vI a1), some (vI 0), some (vI 0)]) dX6_thoseWhoMiss_3 (Nat.le_of_ble_eq_true rfl) rfl ?_
  exact h
set_option maxRecDepth 100000 in
theorem bX6_thoseWhoMiss_4 {G : GG} {d : Nat} {M : MM} {Q : Option AV → MM → Prop} (p0 : Nat) (hk0 : kd p0 = 7) (a1 : Int) (s2 : Int) (s3 : Int) (hS : ShX M) (h :
((gI M p0 2) ≤ s3 →
(Q (some (vI s2)) M)) ∧
(¬ ((gI M p0 2) ≤ s3) →
(Ok G mX7_thingOfPerson d 0 0 [vR p0, vI s3] M (fun v M2 => ∃ r3 : Int, v = some (vI r3) ∧ ShX M2 ∧ 
(R32 (s3 + 1) ∧
(Wp G mX6_thoseWhoMiss (d + 1) 0 0 4 [some (vR p0), some (vI a1), some (vI (iorv s2 (ishlv (iandv (ishrv a1 r3) 1) s3))), some (vI (s3 + 1))] [] M2 0 0 Q)))))) :
  Wp G mX6_thoseWhoMiss (d + 1) 0 0 4 [some (vR p0), some (vI a1), some (vI s2), some (vI s3)] [] M 0 0 Q := by
  refine wg_iload_n dX6_thoseWhoMiss_4 rfl ?_
  refine wg_aload_n dX6_thoseWhoMiss_5 rfl (kn7 hk0) ?_
  refine wg_getI dX6_thoseWhoMiss_6 (fl_X6_74 rfl) rfl hk0 ?_
  refine wg_icmp_ge dX6_thoseWhoMiss_9 rfl (fun c1 => ?_) (fun c1 => ?_)
  · replace h := h.1 c1
    refine wg_iload_n dX6_thoseWhoMiss_32 rfl ?_
    exact wp_iret rfl dX6_thoseWhoMiss_33 ⟨Nat.le_refl _, Nat.le_refl _⟩ h
  · replace h := h.2 c1
    refine wg_iload_n dX6_thoseWhoMiss_12 rfl ?_
    refine wg_iload_n dX6_thoseWhoMiss_13 rfl ?_
    refine wg_aload_n dX6_thoseWhoMiss_14 rfl (kn7 hk0) ?_
    refine wg_iload_n dX6_thoseWhoMiss_15 rfl ?_
    refine wg_callV (I' := mX7_thingOfPerson) (ci := 7) (np := 1) (d' := d) (q := p0) (as := [vI s3]) (st := [vI a1, vI s2]) dX6_thoseWhoMiss_16 lk_X6_77 ci_X7_thingOfPerson rfl (Nat.le_of_ble_eq_true rfl) rfl rfl (Nat.le_of_ble_eq_true rfl) hk0 (Nat.le_refl _) ⟨Nat.le_refl _, Nat.le_refl _⟩ h (fun v M2 h => ?_)
    obtain ⟨r3, rfl, hS, h⟩ := h
    refine wg_ishr dX6_thoseWhoMiss_19 ?_
    refine wg_iconst dX6_thoseWhoMiss_20 qiconst_1 ?_
    refine wg_iand dX6_thoseWhoMiss_21 ?_
    refine wg_iload_n dX6_thoseWhoMiss_22 rfl ?_
    refine wg_ishl dX6_thoseWhoMiss_23 ?_
    refine wg_ior dX6_thoseWhoMiss_24 ?_
    refine wg_istore_n (L' := [some (vR p0), some (vI a1), some (vI (iorv s2 (ishlv (iandv (ishrv a1 r3) 1) s3))), some (vI s3)]) dX6_thoseWhoMiss_25 (Nat.le_of_ble_eq_true rfl) rfl ?_
    obtain ⟨o, h⟩ := h
    refine wg_iinc (L' := [some (vR p0), some (vI a1), some (vI (iorv s2 (ishlv (iandv (ishrv a1 r3) 1) s3))), some (vI (s3 + 1))]) dX6_thoseWhoMiss_26 (Nat.le_of_ble_eq_true rfl) rfl rfl o ?_
    refine wg_goto dX6_thoseWhoMiss_29 rfl ?_
    exact h
set_option maxRecDepth 100000 in
theorem bX6_sumOfWeights_0 {G : GG} {d : Nat} {M : MM} {Q : Option AV → MM → Prop} (p0 : Nat) (hk0 : kd p0 = 7) (a1 : Int) (hS : ShX M) (h :
Wp G mX6_sumOfWeights (d + 1) 0 0 4 [some (vR p0), some (vI a1), some (vI 0), some (vI 0)] [] M 0 0 Q) :
  Wp G mX6_sumOfWeights (d + 1) 0 0 0 [some (vR p0), some (vI a1), none, none] [] M 0 0 Q := by
  refine wg_iconst dX6_sumOfWeights_0 qiconst_0 ?_
  refine wg_istore_n (L' := [some (vR p0), some (vI a1), some (vI 0), none]) dX6_sumOfWeights_1 (Nat.le_of_ble_eq_true rfl) rfl ?_
  refine wg_iconst dX6_sumOfWeights_2 qiconst_0 ?_
  refine wg_istore_n (L' := [some (vR p0), some (vI a1), some (vI 0), some (vI 0)]) dX6_sumOfWeights_3 (Nat.le_of_ble_eq_true rfl) rfl ?_
  exact h
set_option maxRecDepth 100000 in
theorem bX6_sumOfWeights_4 {G : GG} {d : Nat} {M : MM} {Q : Option AV → MM → Prop} (p0 : Nat) (hk0 : kd p0 = 7) (a1 : Int) (s2 : Int) (s3 : Int) (hS : ShX M) (h :
((gI M p0 2) ≤ s3 →
(Q (some (vI s2)) M)) ∧
(¬ ((gI M p0 2) ≤ s3) →
(Ok G mX7_weightOfPerson d 0 0 [vR p0, vI s3] M (fun v M2 => ∃ r3 : Int, v = some (vI r3) ∧ ShX M2 ∧ 
(R32 ((iandv (ishrv a1 s3) 1) * r3) ∧
(R32 (s2 + ((iandv (ishrv a1 s3) 1) * r3)) ∧
(R32 (s3 + 1) ∧
(Wp G mX6_sumOfWeights (d + 1) 0 0 4 [some (vR p0), some (vI a1), some (vI (s2 + ((iandv (ishrv a1 s3) 1) * r3))), some (vI (s3 + 1))] [] M2 0 0 Q)))))))) :
  Wp G mX6_sumOfWeights (d + 1) 0 0 4 [some (vR p0), some (vI a1), some (vI s2), some (vI s3)] [] M 0 0 Q := by
  refine wg_iload_n dX6_sumOfWeights_4 rfl ?_
  refine wg_aload_n dX6_sumOfWeights_5 rfl (kn7 hk0) ?_
  refine wg_getI dX6_sumOfWeights_6 (fl_X6_74 rfl) rfl hk0 ?_
  refine wg_icmp_ge dX6_sumOfWeights_9 rfl (fun c1 => ?_) (fun c1 => ?_)
  · replace h := h.1 c1
    refine wg_iload_n dX6_sumOfWeights_32 rfl ?_
    exact wp_iret rfl dX6_sumOfWeights_33 ⟨Nat.le_refl _, Nat.le_refl _⟩ h
  · replace h := h.2 c1
    refine wg_iload_n dX6_sumOfWeights_12 rfl ?_
    refine wg_iload_n dX6_sumOfWeights_13 rfl ?_
    refine wg_iload_n dX6_sumOfWeights_14 rfl ?_
    refine wg_ishr dX6_sumOfWeights_15 ?_
    refine wg_iconst dX6_sumOfWeights_16 qiconst_1 ?_
    refine wg_iand dX6_sumOfWeights_17 ?_
    refine wg_aload_n dX6_sumOfWeights_18 rfl (kn7 hk0) ?_
    refine wg_iload_n dX6_sumOfWeights_19 rfl ?_
    refine wg_callV (I' := mX7_weightOfPerson) (ci := 7) (np := 1) (d' := d) (q := p0) (as := [vI s3]) (st := [vI (iandv (ishrv a1 s3) 1), vI s2]) dX6_sumOfWeights_20 lk_X6_80 ci_X7_weightOfPerson rfl (Nat.le_of_ble_eq_true rfl) rfl rfl (Nat.le_of_ble_eq_true rfl) hk0 (Nat.le_refl _) ⟨Nat.le_refl _, Nat.le_refl _⟩ h (fun v M2 h => ?_)
    obtain ⟨r3, rfl, hS, h⟩ := h
    obtain ⟨o, h⟩ := h
    refine wg_imul dX6_sumOfWeights_23 o ?_
    obtain ⟨o, h⟩ := h
    refine wg_iadd dX6_sumOfWeights_24 o ?_
    refine wg_istore_n (L' := [some (vR p0), some (vI a1), some (vI (s2 + ((iandv (ishrv a1 s3) 1) * r3))), some (vI s3)]) dX6_sumOfWeights_25 (Nat.le_of_ble_eq_true rfl) rfl ?_
    obtain ⟨o, h⟩ := h
    refine wg_iinc (L' := [some (vR p0), some (vI a1), some (vI (s2 + ((iandv (ishrv a1 s3) 1) * r3))), some (vI (s3 + 1))]) dX6_sumOfWeights_26 (Nat.le_of_ble_eq_true rfl) rfl rfl o ?_
    refine wg_goto dX6_sumOfWeights_29 rfl ?_
    exact h
set_option maxRecDepth 100000 in
theorem bX6_isSet_0 {G : GG} {d : Nat} {M : MM} {Q : Option AV → MM → Prop} (a1 : Int) (hS : ShX M) (h :
(a1 < 0 →
(Q (some (vI 0)) M)) ∧
(¬ (a1 < 0) →
(((gI M 30 0) ≤ a1 →
(Q (some (vI 0)) M)) ∧
(¬ ((gI M 30 0) ≤ a1) →
(Q (some (vI 1)) M))))) :
  Wp G mX6_isSet d 0 0 0 [some (vR 30), some (vI a1)] [] M 0 0 Q := by
  refine wg_iload_n dX6_isSet_0 rfl ?_
  refine wg_if_lt dX6_isSet_1 rfl (fun c1 => ?_) (fun c1 => ?_)
  · replace h := h.1 c1
    refine wg_iconst dX6_isSet_16 qiconst_0 ?_
    exact wp_zret rfl dX6_isSet_17 ⟨Nat.le_refl _, Nat.le_refl _⟩ (Or.inl rfl) h
  · replace h := h.2 c1
    refine wg_iload_n dX6_isSet_4 rfl ?_
    refine wg_aload_n dX6_isSet_5 rfl (Nat.succ_ne_zero _) ?_
    refine wg_getI dX6_isSet_6 (fl_X6_9 rfl) rfl rfl ?_
    refine wg_icmp_ge dX6_isSet_9 rfl (fun c2 => ?_) (fun c2 => ?_)
    · replace h := h.1 c2
      refine wg_iconst dX6_isSet_16 qiconst_0 ?_
      exact wp_zret rfl dX6_isSet_17 ⟨Nat.le_refl _, Nat.le_refl _⟩ (Or.inl rfl) h
    · replace h := h.2 c2
      refine wg_iconst dX6_isSet_12 qiconst_1 ?_
      refine wg_goto dX6_isSet_13 rfl ?_
      exact wp_zret rfl dX6_isSet_17 ⟨Nat.le_refl _, Nat.le_refl _⟩ (Or.inr rfl) h
set_option maxRecDepth 100000 in
theorem bX6_strengthOf_0 {G : GG} {d : Nat} {M : MM} {Q : Option AV → MM → Prop} (a1 : Int) (hS : ShX M) (h :
(a1 < 0 →
(Q (some (vI 0)) M)) ∧
(¬ (a1 < 0) →
((1024 ≤ a1 →
(Q (some (vI 0)) M)) ∧
(¬ (1024 ≤ a1) →
(((0 : Int) ≤ a1 ∧ (a1 : Int) < 1024) ∧
(Q (some (vI (gI M 31 a1.toNat))) M)))))) :
  Wp G mX6_strengthOf d 0 0 0 [some (vR 30), some (vI a1)] [] M 0 0 Q := by
  refine wg_iload_n dX6_strengthOf_0 rfl ?_
  refine wg_if_lt dX6_strengthOf_1 rfl (fun c1 => ?_) (fun c1 => ?_)
  · replace h := h.1 c1
    refine wg_iconst dX6_strengthOf_20 qiconst_0 ?_
    exact wp_iret rfl dX6_strengthOf_21 ⟨Nat.le_refl _, Nat.le_refl _⟩ h
  · replace h := h.2 c1
    refine wg_iload_n dX6_strengthOf_4 rfl ?_
    refine wg_sipush dX6_strengthOf_5 qsipush_1024 ?_
    refine wg_icmp_ge dX6_strengthOf_8 rfl (fun c2 => ?_) (fun c2 => ?_)
    · replace h := h.1 c2
      refine wg_iconst dX6_strengthOf_20 qiconst_0 ?_
      exact wp_iret rfl dX6_strengthOf_21 ⟨Nat.le_refl _, Nat.le_refl _⟩ h
    · replace h := h.2 c2
      refine wg_aload_n dX6_strengthOf_11 rfl (Nat.succ_ne_zero _) ?_
      refine wg_getRe dX6_strengthOf_12 (fl_X6_15 rfl) rfl rfl (x30 hS 1 (r := 31) (Nat.le_of_ble_eq_true rfl) (Nat.le_of_ble_eq_true rfl) rfl) ?_
      refine wg_iload_n dX6_strengthOf_15 rfl ?_
      obtain ⟨o3, h⟩ := h
      refine wg_iald dX6_strengthOf_16 rfl o3.1 o3.2 ?_
      refine wg_goto dX6_strengthOf_17 rfl ?_
      exact wp_iret rfl dX6_strengthOf_21 ⟨Nat.le_refl _, Nat.le_refl _⟩ h
set_option maxRecDepth 100000 in
theorem bX6_followersOf_0 {G : GG} {d : Nat} {M : MM} {Q : Option AV → MM → Prop} (a1 : Int) (hS : ShX M) (h :
(a1 < 0 →
(Q (some (vI 0)) M)) ∧
(¬ (a1 < 0) →
((1024 ≤ a1 →
(Q (some (vI 0)) M)) ∧
(¬ (1024 ≤ a1) →
(((0 : Int) ≤ a1 ∧ (a1 : Int) < 1024) ∧
(Q (some (vI (gI M 32 a1.toNat))) M)))))) :
  Wp G mX6_followersOf d 0 0 0 [some (vR 30), some (vI a1)] [] M 0 0 Q := by
  refine wg_iload_n dX6_followersOf_0 rfl ?_
  refine wg_if_lt dX6_followersOf_1 rfl (fun c1 => ?_) (fun c1 => ?_)
  · replace h := h.1 c1
    refine wg_iconst dX6_followersOf_20 qiconst_0 ?_
    exact wp_iret rfl dX6_followersOf_21 ⟨Nat.le_refl _, Nat.le_refl _⟩ h
  · replace h := h.2 c1
    refine wg_iload_n dX6_followersOf_4 rfl ?_
    refine wg_sipush dX6_followersOf_5 qsipush_1024 ?_
    refine wg_icmp_ge dX6_followersOf_8 rfl (fun c2 => ?_) (fun c2 => ?_)
    · replace h := h.1 c2
      refine wg_iconst dX6_followersOf_20 qiconst_0 ?_
      exact wp_iret rfl dX6_followersOf_21 ⟨Nat.le_refl _, Nat.le_refl _⟩ h
    · replace h := h.2 c2
      refine wg_aload_n dX6_followersOf_11 rfl (Nat.succ_ne_zero _) ?_
      refine wg_getRe dX6_followersOf_12 (fl_X6_19 rfl) rfl rfl (x30 hS 2 (r := 32) (Nat.le_of_ble_eq_true rfl) (Nat.le_of_ble_eq_true rfl) rfl) ?_
      refine wg_iload_n dX6_followersOf_15 rfl ?_
      obtain ⟨o3, h⟩ := h
      refine wg_iald dX6_followersOf_16 rfl o3.1 o3.2 ?_
      refine wg_goto dX6_followersOf_17 rfl ?_
      exact wp_iret rfl dX6_followersOf_21 ⟨Nat.le_refl _, Nat.le_refl _⟩ h
set_option maxRecDepth 100000 in
theorem bX6_missersOf_0 {G : GG} {d : Nat} {M : MM} {Q : Option AV → MM → Prop} (a1 : Int) (hS : ShX M) (h :
(a1 < 0 →
(Q (some (vI 0)) M)) ∧
(¬ (a1 < 0) →
((1024 ≤ a1 →
(Q (some (vI 0)) M)) ∧
(¬ (1024 ≤ a1) →
(((0 : Int) ≤ a1 ∧ (a1 : Int) < 1024) ∧
(Q (some (vI (gI M 33 a1.toNat))) M)))))) :
  Wp G mX6_missersOf d 0 0 0 [some (vR 30), some (vI a1)] [] M 0 0 Q := by
  refine wg_iload_n dX6_missersOf_0 rfl ?_
  refine wg_if_lt dX6_missersOf_1 rfl (fun c1 => ?_) (fun c1 => ?_)
  · replace h := h.1 c1
    refine wg_iconst dX6_missersOf_20 qiconst_0 ?_
    exact wp_iret rfl dX6_missersOf_21 ⟨Nat.le_refl _, Nat.le_refl _⟩ h
  · replace h := h.2 c1
    refine wg_iload_n dX6_missersOf_4 rfl ?_
    refine wg_sipush dX6_missersOf_5 qsipush_1024 ?_
    refine wg_icmp_ge dX6_missersOf_8 rfl (fun c2 => ?_) (fun c2 => ?_)
    · replace h := h.1 c2
      refine wg_iconst dX6_missersOf_20 qiconst_0 ?_
      exact wp_iret rfl dX6_missersOf_21 ⟨Nat.le_refl _, Nat.le_refl _⟩ h
    · replace h := h.2 c2
      refine wg_aload_n dX6_missersOf_11 rfl (Nat.succ_ne_zero _) ?_
      refine wg_getRe dX6_missersOf_12 (fl_X6_22 rfl) rfl rfl (x30 hS 3 (r := 33) (Nat.le_of_ble_eq_true rfl) (Nat.le_of_ble_eq_true rfl) rfl) ?_
      refine wg_iload_n dX6_missersOf_15 rfl ?_
      obtain ⟨o3, h⟩ := h
      refine wg_iald dX6_missersOf_16 rfl o3.1 o3.2 ?_
      refine wg_goto dX6_missersOf_17 rfl ?_
      exact wp_iret rfl dX6_missersOf_21 ⟨Nat.le_refl _, Nat.le_refl _⟩ h
set_option maxRecDepth 100000 in
theorem bX6_lossOf_0 {G : GG} {d : Nat} {M : MM} {Q : Option AV → MM → Prop} (a1 : Int) (hS : ShX M) (h :
(a1 < 0 →
(Q (some (vI 0)) M)) ∧
(¬ (a1 < 0) →
((1024 ≤ a1 →
(Q (some (vI 0)) M)) ∧
(¬ (1024 ≤ a1) →
(((0 : Int) ≤ a1 ∧ (a1 : Int) < 1024) ∧
(Q (some (vI (gI M 34 a1.toNat))) M)))))) :
  Wp G mX6_lossOf d 0 0 0 [some (vR 30), some (vI a1)] [] M 0 0 Q := by
  refine wg_iload_n dX6_lossOf_0 rfl ?_
  refine wg_if_lt dX6_lossOf_1 rfl (fun c1 => ?_) (fun c1 => ?_)
  · replace h := h.1 c1
    refine wg_iconst dX6_lossOf_20 qiconst_0 ?_
    exact wp_iret rfl dX6_lossOf_21 ⟨Nat.le_refl _, Nat.le_refl _⟩ h
  · replace h := h.2 c1
    refine wg_iload_n dX6_lossOf_4 rfl ?_
    refine wg_sipush dX6_lossOf_5 qsipush_1024 ?_
    refine wg_icmp_ge dX6_lossOf_8 rfl (fun c2 => ?_) (fun c2 => ?_)
    · replace h := h.1 c2
      refine wg_iconst dX6_lossOf_20 qiconst_0 ?_
      exact wp_iret rfl dX6_lossOf_21 ⟨Nat.le_refl _, Nat.le_refl _⟩ h
    · replace h := h.2 c2
      refine wg_aload_n dX6_lossOf_11 rfl (Nat.succ_ne_zero _) ?_
      refine wg_getRe dX6_lossOf_12 (fl_X6_25 rfl) rfl rfl (x30 hS 4 (r := 34) (Nat.le_of_ble_eq_true rfl) (Nat.le_of_ble_eq_true rfl) rfl) ?_
      refine wg_iload_n dX6_lossOf_15 rfl ?_
      obtain ⟨o3, h⟩ := h
      refine wg_iald dX6_lossOf_16 rfl o3.1 o3.2 ?_
      refine wg_goto dX6_lossOf_17 rfl ?_
      exact wp_iret rfl dX6_lossOf_21 ⟨Nat.le_refl _, Nat.le_refl _⟩ h
set_option maxRecDepth 100000 in
theorem bX6_costOf_0 {G : GG} {d : Nat} {M : MM} {Q : Option AV → MM → Prop} (a1 : Int) (a2 : Int) (hS : ShX M) (h :
Ok G mX6_lossOf d 0 0 [vR 30, vI (iorv a2 a1)] M (fun v M1 => ∃ r2 : Int, v = some (vI r2) ∧ ShX M1 ∧ 
(Ok G mX6_lossOf d 0 0 [vR 30, vI a2] M1 (fun v M3 => ∃ r4 : Int, v = some (vI r4) ∧ ShX M3 ∧ 
(R32 (r2 - r4) ∧
(Q (some (vI (r2 - r4))) M3)))))) :
  Wp G mX6_costOf (d + 1) 0 0 0 [some (vR 30), some (vI a1), some (vI a2)] [] M 0 0 Q := by
  refine wg_aload_n dX6_costOf_0 rfl (Nat.succ_ne_zero _) ?_
  refine wg_iload_n dX6_costOf_1 rfl ?_
  refine wg_iload_n dX6_costOf_2 rfl ?_
  refine wg_ior dX6_costOf_3 ?_
  refine wg_callV (I' := mX6_lossOf) (ci := 6) (np := 1) (d' := d) (q := 30) (as := [vI (iorv a2 a1)]) (st := []) dX6_costOf_4 lk_X6_83 ci_X6_lossOf rfl (Nat.le_of_ble_eq_true rfl) rfl rfl (Nat.le_of_ble_eq_true rfl) rfl (Nat.le_refl _) ⟨Nat.le_refl _, Nat.le_refl _⟩ h (fun v M1 h => ?_)
  obtain ⟨r2, rfl, hS, h⟩ := h
  refine wg_aload_n dX6_costOf_7 rfl (Nat.succ_ne_zero _) ?_
  refine wg_iload_n dX6_costOf_8 rfl ?_
  refine wg_callV (I' := mX6_lossOf) (ci := 6) (np := 1) (d' := d) (q := 30) (as := [vI a2]) (st := [vI r2]) dX6_costOf_9 lk_X6_83 ci_X6_lossOf rfl (Nat.le_of_ble_eq_true rfl) rfl rfl (Nat.le_of_ble_eq_true rfl) rfl (Nat.le_refl _) ⟨Nat.le_refl _, Nat.le_refl _⟩ h (fun v M3 h => ?_)
  obtain ⟨r4, rfl, hS, h⟩ := h
  obtain ⟨o, h⟩ := h
  refine wg_isub dX6_costOf_12 o ?_
  exact wp_iret rfl dX6_costOf_13 ⟨Nat.le_refl _, Nat.le_refl _⟩ h
set_option maxRecDepth 100000 in
theorem bX6_thereBesides_0 {G : GG} {d : Nat} {M : MM} {Q : Option AV → MM → Prop} (a1 : Int) (hS : ShX M) (h :
R32 ((gI M 30 0) - 1) ∧
(Ok G mX6_followersOf d 0 0 [vR 30, vI a1] M (fun v M1 => ∃ r2 : Int, v = some (vI r2) ∧ ShX M1 ∧ 
(Q (some (vI (iandv ((gI M 30 0) - 1) (ixorv r2 (-1))))) M1)))) :
  Wp G mX6_thereBesides (d + 1) 0 0 0 [some (vR 30), some (vI a1)] [] M 0 0 Q := by
  refine wg_aload_n dX6_thereBesides_0 rfl (Nat.succ_ne_zero _) ?_
  refine wg_getI dX6_thereBesides_1 (fl_X6_9 rfl) rfl rfl ?_
  refine wg_iconst dX6_thereBesides_4 qiconst_1 ?_
  obtain ⟨o, h⟩ := h
  refine wg_isub dX6_thereBesides_5 o ?_
  refine wg_aload_n dX6_thereBesides_6 rfl (Nat.succ_ne_zero _) ?_
  refine wg_iload_n dX6_thereBesides_7 rfl ?_
  refine wg_callV (I' := mX6_followersOf) (ci := 6) (np := 1) (d' := d) (q := 30) (as := [vI a1]) (st := [vI ((gI M 30 0) - 1)]) dX6_thereBesides_8 lk_X6_50 ci_X6_followersOf rfl (Nat.le_of_ble_eq_true rfl) rfl rfl (Nat.le_of_ble_eq_true rfl) rfl (Nat.le_refl _) ⟨Nat.le_refl _, Nat.le_refl _⟩ h (fun v M1 h => ?_)
  obtain ⟨r2, rfl, hS, h⟩ := h
  refine wg_iconst dX6_thereBesides_11 qiconst_m1 ?_
  refine wg_ixor dX6_thereBesides_12 ?_
  refine wg_iand dX6_thereBesides_13 ?_
  exact wp_iret rfl dX6_thereBesides_14 ⟨Nat.le_refl _, Nat.le_refl _⟩ h
set_option maxRecDepth 100000 in
theorem bX7_clear_0 {G : GG} {d : Nat} {M : MM} {Q : Option AV → MM → Prop} (p0 : Nat) (hk0 : kd p0 = 7) (hS : ShX M) (h :
∀ M1 : MM, M1 = stI M p0 0 0 →
(∀ M2 : MM, M2 = stI M1 p0 1 0 →
(∀ M3 : MM, M3 = stI M2 p0 2 0 →
(∀ M4 : MM, M4 = stI M3 p0 3 0 →
(∀ M5 : MM, M5 = stI M4 p0 4 0 →
(∀ M6 : MM, M6 = stI M5 p0 5 0 →
(∀ M7 : MM, M7 = stI M6 p0 6 0 →
(∀ M8 : MM, M8 = stI M7 p0 7 0 →
(Q none M8))))))))) :
  Wp G mX7_clear d 0 0 0 [some (vR p0)] [] M 0 0 Q := by
  refine wg_aload_n dX7_clear_0 rfl (kn7 hk0) ?_
  refine wg_iconst dX7_clear_1 qiconst_0 ?_
  refine wg_putI dX7_clear_2 (fl_X7_9 rfl) rfl rfl hk0 ?_
  generalize hM : stI M p0 0 0 = M1
  replace h := h _ hM.symm
  replace hS : ShX M1 := by rw [← hM]; exact hS
  clear hM
  refine wg_aload_n dX7_clear_5 rfl (kn7 hk0) ?_
  refine wg_iconst dX7_clear_6 qiconst_0 ?_
  refine wg_putI dX7_clear_7 (fl_X7_15 rfl) rfl rfl hk0 ?_
  generalize hM : stI M1 p0 1 0 = M2
  replace h := h _ hM.symm
  replace hS : ShX M2 := by rw [← hM]; exact hS
  clear hM
  refine wg_aload_n dX7_clear_10 rfl (kn7 hk0) ?_
  refine wg_iconst dX7_clear_11 qiconst_0 ?_
  refine wg_putI dX7_clear_12 (fl_X7_18 rfl) rfl rfl hk0 ?_
  generalize hM : stI M2 p0 2 0 = M3
  replace h := h _ hM.symm
  replace hS : ShX M3 := by rw [← hM]; exact hS
  clear hM
  refine wg_aload_n dX7_clear_15 rfl (kn7 hk0) ?_
  refine wg_iconst dX7_clear_16 qiconst_0 ?_
  refine wg_putI dX7_clear_17 (fl_X7_21 rfl) rfl rfl hk0 ?_
  generalize hM : stI M3 p0 3 0 = M4
  replace h := h _ hM.symm
  replace hS : ShX M4 := by rw [← hM]; exact hS
  clear hM
  refine wg_aload_n dX7_clear_20 rfl (kn7 hk0) ?_
  refine wg_iconst dX7_clear_21 qiconst_0 ?_
  refine wg_putI dX7_clear_22 (fl_X7_24 rfl) rfl rfl hk0 ?_
  generalize hM : stI M4 p0 4 0 = M5
  replace h := h _ hM.symm
  replace hS : ShX M5 := by rw [← hM]; exact hS
  clear hM
  refine wg_aload_n dX7_clear_25 rfl (kn7 hk0) ?_
  refine wg_iconst dX7_clear_26 qiconst_0 ?_
  refine wg_putI dX7_clear_27 (fl_X7_27 rfl) rfl rfl hk0 ?_
  generalize hM : stI M5 p0 5 0 = M6
  replace h := h _ hM.symm
  replace hS : ShX M6 := by rw [← hM]; exact hS
  clear hM
  refine wg_aload_n dX7_clear_30 rfl (kn7 hk0) ?_
  refine wg_iconst dX7_clear_31 qiconst_0 ?_
  refine wg_putI dX7_clear_32 (fl_X7_30 rfl) rfl rfl hk0 ?_
  generalize hM : stI M6 p0 6 0 = M7
  replace h := h _ hM.symm
  replace hS : ShX M7 := by rw [← hM]; exact hS
  clear hM
  refine wg_aload_n dX7_clear_35 rfl (kn7 hk0) ?_
  refine wg_iconst dX7_clear_36 qiconst_0 ?_
  refine wg_putI dX7_clear_37 (fl_X7_33 rfl) rfl rfl hk0 ?_
  generalize hM : stI M7 p0 7 0 = M8
  replace h := h _ hM.symm
  replace hS : ShX M8 := by rw [← hM]; exact hS
  clear hM
  exact wp_vret rfl dX7_clear_40 ⟨Nat.le_refl _, Nat.le_refl _⟩ h
set_option maxRecDepth 100000 in
theorem bX7_take_0 {G : GG} {d : Nat} {M : MM} {Q : Option AV → MM → Prop} (p0 : Nat) (hk0 : kd p0 = 7) (a1 : Int) (a2 : Int) (a3 : Int) (a4 : Int) (a5 : Int) (hS : ShX M) (h :
(a1 = 98 →
(Ok G mX7_takeBeast d 0 0 [vR p0, vI a2] M (fun v M1 => ∃ r2 : Int, v = some (vI r2) ∧ ShX M1 ∧ 
((r2 = 0 ∨ r2 = 1) ∧ Q (some (vI r2)) M1)))) ∧
(a1 = 112 →
(Ok G mX7_takePerson d 0 0 [vR p0, vI a2, vI a3] M (fun v M3 => ∃ r4 : Int, v = some (vI r4) ∧ ShX M3 ∧ 
((r4 = 0 ∨ r4 = 1) ∧ Q (some (vI r4)) M3)))) ∧
(a1 = 116 →
(Ok G mX7_takeThing d 0 0 [vR p0, vI a2, vI a3] M (fun v M5 => ∃ r6 : Int, v = some (vI r6) ∧ ShX M5 ∧ 
((r6 = 0 ∨ r6 = 1) ∧ Q (some (vI r6)) M5)))) ∧
(a1 = 120 →
(Ok G mX7_takeExchange d 0 0 [vR p0, vI a2, vI a3, vI a4, vI a5] M (fun v M7 => ∃ r8 : Int, v = some (vI r8) ∧ ShX M7 ∧ 
((r8 = 0 ∨ r8 = 1) ∧ Q (some (vI r8)) M7)))) ∧
(a1 = 121 →
(Ok G mX7_takeNeed d 0 0 [vR p0, vI a2, vI a3] M (fun v M9 => ∃ r10 : Int, v = some (vI r10) ∧ ShX M9 ∧ 
((r10 = 0 ∨ r10 = 1) ∧ Q (some (vI r10)) M9)))) ∧
((¬ a1 = 98 ∧ ¬ a1 = 112 ∧ ¬ a1 = 116 ∧ ¬ a1 = 120 ∧ ¬ a1 = 121) →
(Q (some (vI 0)) M))) :
  Wp G mX7_take (d + 1) 0 0 0 [some (vR p0), some (vI a1), some (vI a2), some (vI a3), some (vI a4), some (vI a5)] [] M 0 0 Q := by
  refine wg_iload_n dX7_take_0 rfl ?_
  by_cases c0 : a1 = 98
  · replace h := h.1 c0
    refine wg_lookup dX7_take_1 (by decide) (off := 72) (by rw [c0]; decide) rfl ?_
    refine wg_aload_n dX7_take_73 rfl (kn7 hk0) ?_
    refine wg_iload_n dX7_take_74 rfl ?_
    refine wg_callV (I' := mX7_takeBeast) (ci := 7) (np := 1) (d' := d) (q := p0) (as := [vI a2]) (st := []) dX7_take_75 lk_X7_80 ci_X7_takeBeast rfl (Nat.le_of_ble_eq_true rfl) rfl rfl (Nat.le_of_ble_eq_true rfl) hk0 (Nat.le_refl _) ⟨Nat.le_refl _, Nat.le_refl _⟩ h (fun v M1 h => ?_)
    obtain ⟨r2, rfl, hS, h⟩ := h
    obtain ⟨o, h⟩ := h
    exact wp_zret rfl dX7_take_78 ⟨Nat.le_refl _, Nat.le_refl _⟩ o h
  by_cases c1 : a1 = 112
  · replace h := h.2.1 c1
    refine wg_lookup dX7_take_1 (by decide) (off := 65) (by rw [c1]; decide) rfl ?_
    refine wg_aload_n dX7_take_66 rfl (kn7 hk0) ?_
    refine wg_iload_n dX7_take_67 rfl ?_
    refine wg_iload_n dX7_take_68 rfl ?_
    refine wg_callV (I' := mX7_takePerson) (ci := 7) (np := 2) (d' := d) (q := p0) (as := [vI a2, vI a3]) (st := []) dX7_take_69 lk_X7_77 ci_X7_takePerson rfl (Nat.le_of_ble_eq_true rfl) rfl rfl (Nat.le_of_ble_eq_true rfl) hk0 (Nat.le_refl _) ⟨Nat.le_refl _, Nat.le_refl _⟩ h (fun v M3 h => ?_)
    obtain ⟨r4, rfl, hS, h⟩ := h
    obtain ⟨o, h⟩ := h
    exact wp_zret rfl dX7_take_72 ⟨Nat.le_refl _, Nat.le_refl _⟩ o h
  by_cases c2 : a1 = 116
  · replace h := h.2.2.1 c2
    refine wg_lookup dX7_take_1 (by decide) (off := 51) (by rw [c2]; decide) rfl ?_
    refine wg_aload_n dX7_take_52 rfl (kn7 hk0) ?_
    refine wg_iload_n dX7_take_53 rfl ?_
    refine wg_iload_n dX7_take_54 rfl ?_
    refine wg_callV (I' := mX7_takeThing) (ci := 7) (np := 2) (d' := d) (q := p0) (as := [vI a2, vI a3]) (st := []) dX7_take_55 lk_X7_70 ci_X7_takeThing rfl (Nat.le_of_ble_eq_true rfl) rfl rfl (Nat.le_of_ble_eq_true rfl) hk0 (Nat.le_refl _) ⟨Nat.le_refl _, Nat.le_refl _⟩ h (fun v M5 h => ?_)
    obtain ⟨r6, rfl, hS, h⟩ := h
    obtain ⟨o, h⟩ := h
    exact wp_zret rfl dX7_take_58 ⟨Nat.le_refl _, Nat.le_refl _⟩ o h
  by_cases c3 : a1 = 120
  · replace h := h.2.2.2.1 c3
    refine wg_lookup dX7_take_1 (by decide) (off := 78) (by rw [c3]; decide) rfl ?_
    refine wg_aload_n dX7_take_79 rfl (kn7 hk0) ?_
    refine wg_iload_n dX7_take_80 rfl ?_
    refine wg_iload_n dX7_take_81 rfl ?_
    refine wg_iload dX7_take_82 rfl ?_
    refine wg_iload dX7_take_84 rfl ?_
    refine wg_callV (I' := mX7_takeExchange) (ci := 7) (np := 4) (d' := d) (q := p0) (as := [vI a2, vI a3, vI a4, vI a5]) (st := []) dX7_take_86 lk_X7_84 ci_X7_takeExchange rfl (Nat.le_of_ble_eq_true rfl) rfl rfl (Nat.le_of_ble_eq_true rfl) hk0 (Nat.le_refl _) ⟨Nat.le_refl _, Nat.le_refl _⟩ h (fun v M7 h => ?_)
    obtain ⟨r8, rfl, hS, h⟩ := h
    obtain ⟨o, h⟩ := h
    exact wp_zret rfl dX7_take_89 ⟨Nat.le_refl _, Nat.le_refl _⟩ o h
  by_cases c4 : a1 = 121
  · replace h := h.2.2.2.2.1 c4
    refine wg_lookup dX7_take_1 (by decide) (off := 58) (by rw [c4]; decide) rfl ?_
    refine wg_aload_n dX7_take_59 rfl (kn7 hk0) ?_
    refine wg_iload_n dX7_take_60 rfl ?_
    refine wg_iload_n dX7_take_61 rfl ?_
    refine wg_callV (I' := mX7_takeNeed) (ci := 7) (np := 2) (d' := d) (q := p0) (as := [vI a2, vI a3]) (st := []) dX7_take_62 lk_X7_74 ci_X7_takeNeed rfl (Nat.le_of_ble_eq_true rfl) rfl rfl (Nat.le_of_ble_eq_true rfl) hk0 (Nat.le_refl _) ⟨Nat.le_refl _, Nat.le_refl _⟩ h (fun v M9 h => ?_)
    obtain ⟨r10, rfl, hS, h⟩ := h
    obtain ⟨o, h⟩ := h
    exact wp_zret rfl dX7_take_65 ⟨Nat.le_refl _, Nat.le_refl _⟩ o h
  replace h := h.2.2.2.2.2 ⟨c0, c1, c2, c3, c4⟩
  refine wg_lookup dX7_take_1 (by decide) (off := 89) (off_none (fun q hq => by simp only [List.mem_cons, List.not_mem_nil, or_false] at hq; rcases hq with rfl | rfl | rfl | rfl | rfl <;> assumption)) rfl ?_
  refine wg_iconst dX7_take_90 qiconst_0 ?_
  exact wp_zret rfl dX7_take_91 ⟨Nat.le_refl _, Nat.le_refl _⟩ (Or.inl rfl) h
set_option maxRecDepth 100000 in
theorem bX7_takeThing_0 {G : GG} {d : Nat} {M : MM} {Q : Option AV → MM → Prop} (p0 : Nat) (hk0 : kd p0 = 7) (a1 : Int) (a2 : Int) (hS : ShX M) (h :
((gI M p0 0) < 0 →
(Q (some (vI 0)) M)) ∧
(¬ ((gI M p0 0) < 0) →
((10 ≤ (gI M p0 0) →
(Q (some (vI 0)) M)) ∧
(¬ (10 ≤ (gI M p0 0)) →
((20 < a1 →
(Q (some (vI 0)) M)) ∧
(¬ (20 < a1) →
((a2 ≤ 3 →
(((0 : Int) ≤ gI M p0 0 ∧ (gI M p0 0 : Int) < 10) ∧
(∀ M6 : MM, M6 = stI M (p0 + 1) (gI M p0 0).toNat a1 →
(((0 : Int) ≤ gI M6 p0 0 ∧ (gI M6 p0 0 : Int) < 10) ∧
(∀ M8 : MM, M8 = stI M6 (p0 + 2) (gI M6 p0 0).toNat a2 →
((a2 ≠ 1 →
(Wp G mX7_takeThing d 0 0 71 [some (vR p0), none, some (vI a2), some (vI (ishlv 1 (gI M8 p0 0)))] [vI 0, vI (gI M8 p0 5), vR p0] M8 0 0 Q)) ∧
(a2 = 1 →
(Wp G mX7_takeThing d 0 0 71 [some (vR p0), none, some (vI a2), some (vI (ishlv 1 (gI M8 p0 0)))] [vI (ishlv 1 (gI M8 p0 0)), vI (gI M8 p0 5), vR p0] M8 0 0 Q)))))))) ∧
(¬ (a2 ≤ 3) →
(Q (some (vI 0)) M))))))))) :
  Wp G mX7_takeThing d 0 0 0 [some (vR p0), some (vI a1), some (vI a2), none] [] M 0 0 Q := by
  refine wg_aload_n dX7_takeThing_0 rfl (kn7 hk0) ?_
  refine wg_getI dX7_takeThing_1 (fl_X7_9 rfl) rfl hk0 ?_
  refine wg_if_lt dX7_takeThing_4 rfl (fun c1 => ?_) (fun c1 => ?_)
  · replace h := h.1 c1
    refine wg_iconst dX7_takeThing_27 qiconst_0 ?_
    exact wp_zret rfl dX7_takeThing_28 ⟨Nat.le_refl _, Nat.le_refl _⟩ (Or.inl rfl) h
  · replace h := h.2 c1
    refine wg_aload_n dX7_takeThing_7 rfl (kn7 hk0) ?_
    refine wg_getI dX7_takeThing_8 (fl_X7_9 rfl) rfl hk0 ?_
    refine wg_bipush dX7_takeThing_11 qbipush_10 ?_
    refine wg_icmp_ge dX7_takeThing_13 rfl (fun c2 => ?_) (fun c2 => ?_)
    · replace h := h.1 c2
      refine wg_iconst dX7_takeThing_27 qiconst_0 ?_
      exact wp_zret rfl dX7_takeThing_28 ⟨Nat.le_refl _, Nat.le_refl _⟩ (Or.inl rfl) h
    · replace h := h.2 c2
      refine wg_iload_n dX7_takeThing_16 rfl ?_
      refine wg_bipush dX7_takeThing_17 qbipush_20 ?_
      refine wg_icmp_gt dX7_takeThing_19 rfl (fun c3 => ?_) (fun c3 => ?_)
      · replace h := h.1 c3
        refine wg_iconst dX7_takeThing_27 qiconst_0 ?_
        exact wp_zret rfl dX7_takeThing_28 ⟨Nat.le_refl _, Nat.le_refl _⟩ (Or.inl rfl) h
      · replace h := h.2 c3
        refine wg_iload_n dX7_takeThing_22 rfl ?_
        refine wg_iconst dX7_takeThing_23 qiconst_3 ?_
        refine wg_icmp_le dX7_takeThing_24 rfl (fun c4 => ?_) (fun c4 => ?_)
        · replace h := h.1 c4
          refine wg_aload_n dX7_takeThing_29 rfl (kn7 hk0) ?_
          refine wg_getRe dX7_takeThing_30 (fl_X7_36 rfl) rfl hk0 (x7 hS hk0 8 (r := p0 + 1) (Nat.le_of_ble_eq_true rfl) (Nat.le_of_ble_eq_true rfl) rfl) ?_
          refine wg_aload_n dX7_takeThing_33 rfl (kn7 hk0) ?_
          refine wg_getI dX7_takeThing_34 (fl_X7_9 rfl) rfl hk0 ?_
          refine wg_iload_n dX7_takeThing_37 rfl ?_
          obtain ⟨o5, h⟩ := h
          refine wg_iast dX7_takeThing_38 (k7' hk0 8 (Nat.le_of_ble_eq_true rfl) (Nat.le_of_ble_eq_true rfl) rfl) o5.1 (by rw [(l7' hk0 8 (Nat.le_of_ble_eq_true rfl) (Nat.le_of_ble_eq_true rfl) rfl rfl)]; exact o5.2) ?_
          generalize hM : stI M (p0 + 1) (gI M p0 0).toNat a1 = M6
          replace h := h _ hM.symm
          replace hS : ShX M6 := by rw [← hM]; exact hS
          clear hM
          refine wg_aload_n dX7_takeThing_39 rfl (kn7 hk0) ?_
          refine wg_getRe dX7_takeThing_40 (fl_X7_40 rfl) rfl hk0 (x7 hS hk0 9 (r := p0 + 2) (Nat.le_of_ble_eq_true rfl) (Nat.le_of_ble_eq_true rfl) rfl) ?_
          refine wg_aload_n dX7_takeThing_43 rfl (kn7 hk0) ?_
          refine wg_getI dX7_takeThing_44 (fl_X7_9 rfl) rfl hk0 ?_
          refine wg_iload_n dX7_takeThing_47 rfl ?_
          obtain ⟨o7, h⟩ := h
          refine wg_iast dX7_takeThing_48 (k7' hk0 9 (Nat.le_of_ble_eq_true rfl) (Nat.le_of_ble_eq_true rfl) rfl) o7.1 (by rw [(l7' hk0 9 (Nat.le_of_ble_eq_true rfl) (Nat.le_of_ble_eq_true rfl) rfl rfl)]; exact o7.2) ?_
          generalize hM : stI M6 (p0 + 2) (gI M6 p0 0).toNat a2 = M8
          replace h := h _ hM.symm
          replace hS : ShX M8 := by rw [← hM]; exact hS
          clear hM
          refine wg_iconst dX7_takeThing_49 qiconst_1 ?_
          refine wg_aload_n dX7_takeThing_50 rfl (kn7 hk0) ?_
          refine wg_getI dX7_takeThing_51 (fl_X7_9 rfl) rfl hk0 ?_
          refine wg_ishl dX7_takeThing_54 ?_
          refine wg_istore_n (L' := [some (vR p0), some (vI a1), some (vI a2), some (vI (ishlv 1 (gI M8 p0 0)))]) dX7_takeThing_55 (Nat.le_of_ble_eq_true rfl) rfl ?_
          refine wg_aload_n dX7_takeThing_56 rfl (kn7 hk0) ?_
          refine wg_dup dX7_takeThing_57 rfl ?_
          refine wg_getI dX7_takeThing_58 (fl_X7_27 rfl) rfl hk0 ?_
          refine wg_iload_n dX7_takeThing_61 rfl ?_
          refine wg_iconst dX7_takeThing_62 qiconst_1 ?_
          refine wg_icmp_ne dX7_takeThing_63 rfl (fun c9 => ?_) (fun c9 => ?_)
          · replace h := h.1 c9
            refine wg_iconst dX7_takeThing_70 qiconst_0 ?_
            refine wg_weak [true, false, true, true] rfl ?_
            exact h
          · replace h := h.2 c9
            refine wg_iload_n dX7_takeThing_66 rfl ?_
            refine wg_goto dX7_takeThing_67 rfl ?_
            refine wg_weak [true, false, true, true] rfl ?_
            exact h
        · replace h := h.2 c4
          refine wg_iconst dX7_takeThing_27 qiconst_0 ?_
          exact wp_zret rfl dX7_takeThing_28 ⟨Nat.le_refl _, Nat.le_refl _⟩ (Or.inl rfl) h
set_option maxRecDepth 100000 in
theorem bX7_takeThing_71 {G : GG} {d : Nat} {M : MM} {Q : Option AV → MM → Prop} (p0 : Nat) (hk0 : kd p0 = 7) (a2 : Int) (s3 : Int) (t0 : Int) (t1 : Int) (hS : ShX M) (h :
∀ M1 : MM, M1 = stI M p0 5 (iorv t1 t0) →
((a2 ≠ 2 →
(Wp G mX7_takeThing d 0 0 90 [some (vR p0), none, some (vI a2), some (vI s3)] [vI 0, vI (gI M1 p0 6), vR p0] M1 0 0 Q)) ∧
(a2 = 2 →
(Wp G mX7_takeThing d 0 0 90 [some (vR p0), none, some (vI a2), some (vI s3)] [vI s3, vI (gI M1 p0 6), vR p0] M1 0 0 Q)))) :
  Wp G mX7_takeThing d 0 0 71 [some (vR p0), none, some (vI a2), some (vI s3)] [vI t0, vI t1, vR p0] M 0 0 Q := by
  refine wg_ior dX7_takeThing_71 ?_
  refine wg_putI dX7_takeThing_72 (fl_X7_27 rfl) rfl rfl hk0 ?_
  generalize hM : stI M p0 5 (iorv t1 t0) = M1
  replace h := h _ hM.symm
  replace hS : ShX M1 := by rw [← hM]; exact hS
  clear hM
  refine wg_aload_n dX7_takeThing_75 rfl (kn7 hk0) ?_
  refine wg_dup dX7_takeThing_76 rfl ?_
  refine wg_getI dX7_takeThing_77 (fl_X7_30 rfl) rfl hk0 ?_
  refine wg_iload_n dX7_takeThing_80 rfl ?_
  refine wg_iconst dX7_takeThing_81 qiconst_2 ?_
  refine wg_icmp_ne dX7_takeThing_82 rfl (fun c2 => ?_) (fun c2 => ?_)
  · replace h := h.1 c2
    refine wg_iconst dX7_takeThing_89 qiconst_0 ?_
    exact h
  · replace h := h.2 c2
    refine wg_iload_n dX7_takeThing_85 rfl ?_
    refine wg_goto dX7_takeThing_86 rfl ?_
    exact h
set_option maxRecDepth 100000 in
theorem bX7_takeThing_90 {G : GG} {d : Nat} {M : MM} {Q : Option AV → MM → Prop} (p0 : Nat) (hk0 : kd p0 = 7) (a2 : Int) (s3 : Int) (t0 : Int) (t1 : Int) (hS : ShX M) (h :
∀ M1 : MM, M1 = stI M p0 6 (iorv t1 t0) →
((a2 ≠ 3 →
(Wp G mX7_takeThing d 0 0 109 [some (vR p0), none, none, none] [vI 0, vI (gI M1 p0 7), vR p0] M1 0 0 Q)) ∧
(a2 = 3 →
(Wp G mX7_takeThing d 0 0 109 [some (vR p0), none, none, none] [vI s3, vI (gI M1 p0 7), vR p0] M1 0 0 Q)))) :
  Wp G mX7_takeThing d 0 0 90 [some (vR p0), none, some (vI a2), some (vI s3)] [vI t0, vI t1, vR p0] M 0 0 Q := by
  refine wg_ior dX7_takeThing_90 ?_
  refine wg_putI dX7_takeThing_91 (fl_X7_30 rfl) rfl rfl hk0 ?_
  generalize hM : stI M p0 6 (iorv t1 t0) = M1
  replace h := h _ hM.symm
  replace hS : ShX M1 := by rw [← hM]; exact hS
  clear hM
  refine wg_aload_n dX7_takeThing_94 rfl (kn7 hk0) ?_
  refine wg_dup dX7_takeThing_95 rfl ?_
  refine wg_getI dX7_takeThing_96 (fl_X7_33 rfl) rfl hk0 ?_
  refine wg_iload_n dX7_takeThing_99 rfl ?_
  refine wg_iconst dX7_takeThing_100 qiconst_3 ?_
  refine wg_icmp_ne dX7_takeThing_101 rfl (fun c2 => ?_) (fun c2 => ?_)
  · replace h := h.1 c2
    refine wg_iconst dX7_takeThing_108 qiconst_0 ?_
    refine wg_weak [true, false, false, false] rfl ?_
    exact h
  · replace h := h.2 c2
    refine wg_iload_n dX7_takeThing_104 rfl ?_
    refine wg_goto dX7_takeThing_105 rfl ?_
    refine wg_weak [true, false, false, false] rfl ?_
    exact h
set_option maxRecDepth 100000 in
theorem bX7_takeThing_109 {G : GG} {d : Nat} {M : MM} {Q : Option AV → MM → Prop} (p0 : Nat) (hk0 : kd p0 = 7) (t0 : Int) (t1 : Int) (hS : ShX M) (h :
∀ M1 : MM, M1 = stI M p0 7 (iorv t1 t0) →
(R32 ((gI M1 p0 0) + 1) ∧
(∀ M2 : MM, M2 = stI M1 p0 0 ((gI M1 p0 0) + 1) →
(Q (some (vI 1)) M2)))) :
  Wp G mX7_takeThing d 0 0 109 [some (vR p0), none, none, none] [vI t0, vI t1, vR p0] M 0 0 Q := by
  refine wg_ior dX7_takeThing_109 ?_
  refine wg_putI dX7_takeThing_110 (fl_X7_33 rfl) rfl rfl hk0 ?_
  generalize hM : stI M p0 7 (iorv t1 t0) = M1
  replace h := h _ hM.symm
  replace hS : ShX M1 := by rw [← hM]; exact hS
  clear hM
  refine wg_aload_n dX7_takeThing_113 rfl (kn7 hk0) ?_
  refine wg_dup dX7_takeThing_114 rfl ?_
  refine wg_getI dX7_takeThing_115 (fl_X7_9 rfl) rfl hk0 ?_
  refine wg_iconst dX7_takeThing_118 qiconst_1 ?_
  obtain ⟨o, h⟩ := h
  refine wg_iadd dX7_takeThing_119 o ?_
  refine wg_putI dX7_takeThing_120 (fl_X7_9 rfl) rfl rfl hk0 ?_
  generalize hM : stI M1 p0 0 ((gI M1 p0 0) + 1) = M2
  replace h := h _ hM.symm
  replace hS : ShX M2 := by rw [← hM]; exact hS
  clear hM
  refine wg_iconst dX7_takeThing_123 qiconst_1 ?_
  exact wp_zret rfl dX7_takeThing_124 ⟨Nat.le_refl _, Nat.le_refl _⟩ (Or.inr rfl) h
set_option maxRecDepth 100000 in
theorem bX7_takeNeed_0 {G : GG} {d : Nat} {M : MM} {Q : Option AV → MM → Prop} (p0 : Nat) (hk0 : kd p0 = 7) (a1 : Int) (a2 : Int) (hS : ShX M) (h :
((gI M p0 1) < 0 →
(Q (some (vI 0)) M)) ∧
(¬ ((gI M p0 1) < 0) →
((12 ≤ (gI M p0 1) →
(Q (some (vI 0)) M)) ∧
(¬ (12 ≤ (gI M p0 1)) →
(Ok G mX7_areTwoThings d 0 0 [vR p0, vI a1, vI a2] M (fun v M3 => ∃ r4 : Int, v = some (vI r4) ∧ ShX M3 ∧ 
((r4 ≠ 0 →
(((0 : Int) ≤ gI M3 p0 1 ∧ (gI M3 p0 1 : Int) < 12) ∧
(∀ M7 : MM, M7 = stI M3 (p0 + 3) (gI M3 p0 1).toNat a1 →
(((0 : Int) ≤ gI M7 p0 1 ∧ (gI M7 p0 1 : Int) < 12) ∧
(∀ M9 : MM, M9 = stI M7 (p0 + 4) (gI M7 p0 1).toNat a2 →
(R32 ((gI M9 p0 1) + 1) ∧
(∀ M10 : MM, M10 = stI M9 p0 1 ((gI M9 p0 1) + 1) →
(Q (some (vI 1)) M10)))))))) ∧
(r4 = 0 →
(Q (some (vI 0)) M3))))))))) :
  Wp G mX7_takeNeed (d + 1) 0 0 0 [some (vR p0), some (vI a1), some (vI a2)] [] M 0 0 Q := by
  refine wg_aload_n dX7_takeNeed_0 rfl (kn7 hk0) ?_
  refine wg_getI dX7_takeNeed_1 (fl_X7_15 rfl) rfl hk0 ?_
  refine wg_if_lt dX7_takeNeed_4 rfl (fun c1 => ?_) (fun c1 => ?_)
  · replace h := h.1 c1
    refine wg_iconst dX7_takeNeed_25 qiconst_0 ?_
    exact wp_zret rfl dX7_takeNeed_26 ⟨Nat.le_refl _, Nat.le_refl _⟩ (Or.inl rfl) h
  · replace h := h.2 c1
    refine wg_aload_n dX7_takeNeed_7 rfl (kn7 hk0) ?_
    refine wg_getI dX7_takeNeed_8 (fl_X7_15 rfl) rfl hk0 ?_
    refine wg_bipush dX7_takeNeed_11 qbipush_12 ?_
    refine wg_icmp_ge dX7_takeNeed_13 rfl (fun c2 => ?_) (fun c2 => ?_)
    · replace h := h.1 c2
      refine wg_iconst dX7_takeNeed_25 qiconst_0 ?_
      exact wp_zret rfl dX7_takeNeed_26 ⟨Nat.le_refl _, Nat.le_refl _⟩ (Or.inl rfl) h
    · replace h := h.2 c2
      refine wg_aload_n dX7_takeNeed_16 rfl (kn7 hk0) ?_
      refine wg_iload_n dX7_takeNeed_17 rfl ?_
      refine wg_iload_n dX7_takeNeed_18 rfl ?_
      refine wg_callV (I' := mX7_areTwoThings) (ci := 7) (np := 2) (d' := d) (q := p0) (as := [vI a1, vI a2]) (st := []) dX7_takeNeed_19 lk_X7_88 ci_X7_areTwoThings rfl (Nat.le_of_ble_eq_true rfl) rfl rfl (Nat.le_of_ble_eq_true rfl) hk0 (Nat.le_refl _) ⟨Nat.le_refl _, Nat.le_refl _⟩ h (fun v M3 h => ?_)
      obtain ⟨r4, rfl, hS, h⟩ := h
      refine wg_if_ne dX7_takeNeed_22 rfl (fun c5 => ?_) (fun c5 => ?_)
      · replace h := h.1 c5
        refine wg_aload_n dX7_takeNeed_27 rfl (kn7 hk0) ?_
        refine wg_getRe dX7_takeNeed_28 (fl_X7_43 rfl) rfl hk0 (x7 hS hk0 10 (r := p0 + 3) (Nat.le_of_ble_eq_true rfl) (Nat.le_of_ble_eq_true rfl) rfl) ?_
        refine wg_aload_n dX7_takeNeed_31 rfl (kn7 hk0) ?_
        refine wg_getI dX7_takeNeed_32 (fl_X7_15 rfl) rfl hk0 ?_
        refine wg_iload_n dX7_takeNeed_35 rfl ?_
        obtain ⟨o6, h⟩ := h
        refine wg_iast dX7_takeNeed_36 (k7' hk0 10 (Nat.le_of_ble_eq_true rfl) (Nat.le_of_ble_eq_true rfl) rfl) o6.1 (by rw [(l7' hk0 10 (Nat.le_of_ble_eq_true rfl) (Nat.le_of_ble_eq_true rfl) rfl rfl)]; exact o6.2) ?_
        generalize hM : stI M3 (p0 + 3) (gI M3 p0 1).toNat a1 = M7
        replace h := h _ hM.symm
        replace hS : ShX M7 := by rw [← hM]; exact hS
        clear hM
        refine wg_aload_n dX7_takeNeed_37 rfl (kn7 hk0) ?_
        refine wg_getRe dX7_takeNeed_38 (fl_X7_46 rfl) rfl hk0 (x7 hS hk0 11 (r := p0 + 4) (Nat.le_of_ble_eq_true rfl) (Nat.le_of_ble_eq_true rfl) rfl) ?_
        refine wg_aload_n dX7_takeNeed_41 rfl (kn7 hk0) ?_
        refine wg_getI dX7_takeNeed_42 (fl_X7_15 rfl) rfl hk0 ?_
        refine wg_iload_n dX7_takeNeed_45 rfl ?_
        obtain ⟨o8, h⟩ := h
        refine wg_iast dX7_takeNeed_46 (k7' hk0 11 (Nat.le_of_ble_eq_true rfl) (Nat.le_of_ble_eq_true rfl) rfl) o8.1 (by rw [(l7' hk0 11 (Nat.le_of_ble_eq_true rfl) (Nat.le_of_ble_eq_true rfl) rfl rfl)]; exact o8.2) ?_
        generalize hM : stI M7 (p0 + 4) (gI M7 p0 1).toNat a2 = M9
        replace h := h _ hM.symm
        replace hS : ShX M9 := by rw [← hM]; exact hS
        clear hM
        refine wg_aload_n dX7_takeNeed_47 rfl (kn7 hk0) ?_
        refine wg_dup dX7_takeNeed_48 rfl ?_
        refine wg_getI dX7_takeNeed_49 (fl_X7_15 rfl) rfl hk0 ?_
        refine wg_iconst dX7_takeNeed_52 qiconst_1 ?_
        obtain ⟨o, h⟩ := h
        refine wg_iadd dX7_takeNeed_53 o ?_
        refine wg_putI dX7_takeNeed_54 (fl_X7_15 rfl) rfl rfl hk0 ?_
        generalize hM : stI M9 p0 1 ((gI M9 p0 1) + 1) = M10
        replace h := h _ hM.symm
        replace hS : ShX M10 := by rw [← hM]; exact hS
        clear hM
        refine wg_iconst dX7_takeNeed_57 qiconst_1 ?_
        exact wp_zret rfl dX7_takeNeed_58 ⟨Nat.le_refl _, Nat.le_refl _⟩ (Or.inr rfl) h
      · replace h := h.2 c5
        refine wg_iconst dX7_takeNeed_25 qiconst_0 ?_
        exact wp_zret rfl dX7_takeNeed_26 ⟨Nat.le_refl _, Nat.le_refl _⟩ (Or.inl rfl) h
set_option maxRecDepth 100000 in
theorem bX7_takePerson_0 {G : GG} {d : Nat} {M : MM} {Q : Option AV → MM → Prop} (p0 : Nat) (hk0 : kd p0 = 7) (a1 : Int) (a2 : Int) (hS : ShX M) (h :
((gI M p0 2) < 0 →
(Q (some (vI 0)) M)) ∧
(¬ ((gI M p0 2) < 0) →
(((if 8 ≤ (gI M p0 2) then (0 : Int) else 1) = 0 →
(Q (some (vI 0)) M)) ∧
(¬ ((if 8 ≤ (gI M p0 2) then (0 : Int) else 1) = 0) →
(((gI M p0 0) ≤ a1 →
(Q (some (vI 0)) M)) ∧
(¬ ((gI M p0 0) ≤ a1) →
(Ok G mX7_isOneFigure d 0 0 [vI a2] M (fun v M5 => ∃ r6 : Int, v = some (vI r6) ∧ ShX M5 ∧ 
((r6 ≠ 0 →
(((0 : Int) ≤ gI M5 p0 2 ∧ (gI M5 p0 2 : Int) < 8) ∧
(∀ M9 : MM, M9 = stI M5 (p0 + 5) (gI M5 p0 2).toNat a1 →
(((0 : Int) ≤ gI M9 p0 2 ∧ (gI M9 p0 2 : Int) < 8) ∧
(∀ M11 : MM, M11 = stI M9 (p0 + 6) (gI M9 p0 2).toNat a2 →
(R32 ((gI M11 p0 2) + 1) ∧
(∀ M12 : MM, M12 = stI M11 p0 2 ((gI M11 p0 2) + 1) →
(Q (some (vI 1)) M12)))))))) ∧
(r6 = 0 →
(Q (some (vI 0)) M5))))))))))) :
  Wp G mX7_takePerson (d + 1) 0 0 0 [some (vR p0), some (vI a1), some (vI a2), none] [] M 0 0 Q := by
  refine wg_aload_n dX7_takePerson_0 rfl (kn7 hk0) ?_
  refine wg_getI dX7_takePerson_1 (fl_X7_18 rfl) rfl hk0 ?_
  refine wg_if_lt dX7_takePerson_4 rfl (fun c1 => ?_) (fun c1 => ?_)
  · replace h := h.1 c1
    refine wg_iconst dX7_takePerson_20 qiconst_0 ?_
    refine wg_istore_n (L' := [some (vR p0), some (vI a1), some (vI a2), some (vI 0)]) dX7_takePerson_21 (Nat.le_of_ble_eq_true rfl) rfl ?_
    refine wg_iload_n dX7_takePerson_22 rfl ?_
    refine wg_if_eq dX7_takePerson_23 rfl (fun _ => ?_) (fun c => absurd c (by decide))
    refine wg_iconst dX7_takePerson_41 qiconst_0 ?_
    exact wp_zret rfl dX7_takePerson_42 ⟨Nat.le_refl _, Nat.le_refl _⟩ (Or.inl rfl) h
  · replace h := h.2 c1
    refine wg_aload_n dX7_takePerson_7 rfl (kn7 hk0) ?_
    refine wg_getI dX7_takePerson_8 (fl_X7_18 rfl) rfl hk0 ?_
    refine wg_bipush dX7_takePerson_11 qbipush_8 ?_
    have hJ13 : Wp G mX7_takePerson (d + 1) 0 0 21 [some (vR p0), some (vI a1), some (vI a2), none] [vI (if 8 ≤ (gI M p0 2) then (0 : Int) else 1)] M 0 0 Q := by
      refine wg_istore_n (L' := [some (vR p0), some (vI a1), some (vI a2), some (vI (if 8 ≤ (gI M p0 2) then (0 : Int) else 1))]) dX7_takePerson_21 (Nat.le_of_ble_eq_true rfl) rfl ?_
      refine wg_iload_n dX7_takePerson_22 rfl ?_
      refine wg_if_eq dX7_takePerson_23 rfl (fun c3 => ?_) (fun c3 => ?_)
      · replace h := h.1 c3
        refine wg_iconst dX7_takePerson_41 qiconst_0 ?_
        exact wp_zret rfl dX7_takePerson_42 ⟨Nat.le_refl _, Nat.le_refl _⟩ (Or.inl rfl) h
      · replace h := h.2 c3
        refine wg_iload_n dX7_takePerson_26 rfl ?_
        refine wg_aload_n dX7_takePerson_27 rfl (kn7 hk0) ?_
        refine wg_getI dX7_takePerson_28 (fl_X7_9 rfl) rfl hk0 ?_
        refine wg_icmp_ge dX7_takePerson_31 rfl (fun c4 => ?_) (fun c4 => ?_)
        · replace h := h.1 c4
          refine wg_iconst dX7_takePerson_41 qiconst_0 ?_
          exact wp_zret rfl dX7_takePerson_42 ⟨Nat.le_refl _, Nat.le_refl _⟩ (Or.inl rfl) h
        · replace h := h.2 c4
          refine wg_iload_n dX7_takePerson_34 rfl ?_
          refine wg_callS (I' := mX7_isOneFigure) (np := 1) (d' := d) (as := [vI a2]) (st := []) dX7_takePerson_35 lk_X7_91 ci_X7_isOneFigure rfl rfl (Nat.le_of_ble_eq_true rfl) (Nat.le_refl _) ⟨Nat.le_refl _, Nat.le_refl _⟩ h (fun v M5 h => ?_)
          obtain ⟨r6, rfl, hS, h⟩ := h
          refine wg_if_ne dX7_takePerson_38 rfl (fun c7 => ?_) (fun c7 => ?_)
          · replace h := h.1 c7
            refine wg_aload_n dX7_takePerson_43 rfl (kn7 hk0) ?_
            refine wg_getRe dX7_takePerson_44 (fl_X7_49 rfl) rfl hk0 (x7 hS hk0 12 (r := p0 + 5) (Nat.le_of_ble_eq_true rfl) (Nat.le_of_ble_eq_true rfl) rfl) ?_
            refine wg_aload_n dX7_takePerson_47 rfl (kn7 hk0) ?_
            refine wg_getI dX7_takePerson_48 (fl_X7_18 rfl) rfl hk0 ?_
            refine wg_iload_n dX7_takePerson_51 rfl ?_
            obtain ⟨o8, h⟩ := h
            refine wg_iast dX7_takePerson_52 (k7' hk0 12 (Nat.le_of_ble_eq_true rfl) (Nat.le_of_ble_eq_true rfl) rfl) o8.1 (by rw [(l7' hk0 12 (Nat.le_of_ble_eq_true rfl) (Nat.le_of_ble_eq_true rfl) rfl rfl)]; exact o8.2) ?_
            generalize hM : stI M5 (p0 + 5) (gI M5 p0 2).toNat a1 = M9
            replace h := h _ hM.symm
            replace hS : ShX M9 := by rw [← hM]; exact hS
            clear hM
            refine wg_aload_n dX7_takePerson_53 rfl (kn7 hk0) ?_
            refine wg_getRe dX7_takePerson_54 (fl_X7_52 rfl) rfl hk0 (x7 hS hk0 13 (r := p0 + 6) (Nat.le_of_ble_eq_true rfl) (Nat.le_of_ble_eq_true rfl) rfl) ?_
            refine wg_aload_n dX7_takePerson_57 rfl (kn7 hk0) ?_
            refine wg_getI dX7_takePerson_58 (fl_X7_18 rfl) rfl hk0 ?_
            refine wg_iload_n dX7_takePerson_61 rfl ?_
            obtain ⟨o10, h⟩ := h
            refine wg_iast dX7_takePerson_62 (k7' hk0 13 (Nat.le_of_ble_eq_true rfl) (Nat.le_of_ble_eq_true rfl) rfl) o10.1 (by rw [(l7' hk0 13 (Nat.le_of_ble_eq_true rfl) (Nat.le_of_ble_eq_true rfl) rfl rfl)]; exact o10.2) ?_
            generalize hM : stI M9 (p0 + 6) (gI M9 p0 2).toNat a2 = M11
            replace h := h _ hM.symm
            replace hS : ShX M11 := by rw [← hM]; exact hS
            clear hM
            refine wg_aload_n dX7_takePerson_63 rfl (kn7 hk0) ?_
            refine wg_dup dX7_takePerson_64 rfl ?_
            refine wg_getI dX7_takePerson_65 (fl_X7_18 rfl) rfl hk0 ?_
            refine wg_iconst dX7_takePerson_68 qiconst_1 ?_
            obtain ⟨o, h⟩ := h
            refine wg_iadd dX7_takePerson_69 o ?_
            refine wg_putI dX7_takePerson_70 (fl_X7_18 rfl) rfl rfl hk0 ?_
            generalize hM : stI M11 p0 2 ((gI M11 p0 2) + 1) = M12
            replace h := h _ hM.symm
            replace hS : ShX M12 := by rw [← hM]; exact hS
            clear hM
            refine wg_iconst dX7_takePerson_73 qiconst_1 ?_
            exact wp_zret rfl dX7_takePerson_74 ⟨Nat.le_refl _, Nat.le_refl _⟩ (Or.inr rfl) h
          · replace h := h.2 c7
            refine wg_iconst dX7_takePerson_41 qiconst_0 ?_
            exact wp_zret rfl dX7_takePerson_42 ⟨Nat.le_refl _, Nat.le_refl _⟩ (Or.inl rfl) h
    refine wg_icmp_ge dX7_takePerson_13 rfl (fun c2 => ?_) (fun c2 => ?_)
    · rw [show (if 8 ≤ (gI M p0 2) then (0 : Int) else 1) = 0 from if_pos c2] at hJ13
      refine wg_iconst dX7_takePerson_20 qiconst_0 ?_
      exact hJ13
    · rw [show (if 8 ≤ (gI M p0 2) then (0 : Int) else 1) = 1 from if_neg c2] at hJ13
      refine wg_iconst dX7_takePerson_16 qiconst_1 ?_
      refine wg_goto dX7_takePerson_17 rfl ?_
      exact hJ13
set_option maxRecDepth 100000 in
theorem bX7_takeBeast_0 {G : GG} {d : Nat} {M : MM} {Q : Option AV → MM → Prop} (p0 : Nat) (hk0 : kd p0 = 7) (a1 : Int) (hS : ShX M) (h :
((gI M p0 3) < 0 →
(Q (some (vI 0)) M)) ∧
(¬ ((gI M p0 3) < 0) →
((4 ≤ (gI M p0 3) →
(Q (some (vI 0)) M)) ∧
(¬ (4 ≤ (gI M p0 3)) →
((a1 < 1 →
(Q (some (vI 0)) M)) ∧
(¬ (a1 < 1) →
((a1 ≤ 90 →
(((0 : Int) ≤ gI M p0 3 ∧ (gI M p0 3 : Int) < 4) ∧
(∀ M6 : MM, M6 = stI M (p0 + 7) (gI M p0 3).toNat a1 →
(R32 ((gI M6 p0 3) + 1) ∧
(∀ M7 : MM, M7 = stI M6 p0 3 ((gI M6 p0 3) + 1) →
(Q (some (vI 1)) M7)))))) ∧
(¬ (a1 ≤ 90) →
(Q (some (vI 0)) M))))))))) :
  Wp G mX7_takeBeast d 0 0 0 [some (vR p0), some (vI a1)] [] M 0 0 Q := by
  refine wg_aload_n dX7_takeBeast_0 rfl (kn7 hk0) ?_
  refine wg_getI dX7_takeBeast_1 (fl_X7_21 rfl) rfl hk0 ?_
  refine wg_if_lt dX7_takeBeast_4 rfl (fun c1 => ?_) (fun c1 => ?_)
  · replace h := h.1 c1
    refine wg_iconst dX7_takeBeast_26 qiconst_0 ?_
    exact wp_zret rfl dX7_takeBeast_27 ⟨Nat.le_refl _, Nat.le_refl _⟩ (Or.inl rfl) h
  · replace h := h.2 c1
    refine wg_aload_n dX7_takeBeast_7 rfl (kn7 hk0) ?_
    refine wg_getI dX7_takeBeast_8 (fl_X7_21 rfl) rfl hk0 ?_
    refine wg_iconst dX7_takeBeast_11 qiconst_4 ?_
    refine wg_icmp_ge dX7_takeBeast_12 rfl (fun c2 => ?_) (fun c2 => ?_)
    · replace h := h.1 c2
      refine wg_iconst dX7_takeBeast_26 qiconst_0 ?_
      exact wp_zret rfl dX7_takeBeast_27 ⟨Nat.le_refl _, Nat.le_refl _⟩ (Or.inl rfl) h
    · replace h := h.2 c2
      refine wg_iload_n dX7_takeBeast_15 rfl ?_
      refine wg_iconst dX7_takeBeast_16 qiconst_1 ?_
      refine wg_icmp_lt dX7_takeBeast_17 rfl (fun c3 => ?_) (fun c3 => ?_)
      · replace h := h.1 c3
        refine wg_iconst dX7_takeBeast_26 qiconst_0 ?_
        exact wp_zret rfl dX7_takeBeast_27 ⟨Nat.le_refl _, Nat.le_refl _⟩ (Or.inl rfl) h
      · replace h := h.2 c3
        refine wg_iload_n dX7_takeBeast_20 rfl ?_
        refine wg_bipush dX7_takeBeast_21 qbipush_90 ?_
        refine wg_icmp_le dX7_takeBeast_23 rfl (fun c4 => ?_) (fun c4 => ?_)
        · replace h := h.1 c4
          refine wg_aload_n dX7_takeBeast_28 rfl (kn7 hk0) ?_
          refine wg_getRe dX7_takeBeast_29 (fl_X7_55 rfl) rfl hk0 (x7 hS hk0 14 (r := p0 + 7) (Nat.le_of_ble_eq_true rfl) (Nat.le_of_ble_eq_true rfl) rfl) ?_
          refine wg_aload_n dX7_takeBeast_32 rfl (kn7 hk0) ?_
          refine wg_getI dX7_takeBeast_33 (fl_X7_21 rfl) rfl hk0 ?_
          refine wg_iload_n dX7_takeBeast_36 rfl ?_
          obtain ⟨o5, h⟩ := h
          refine wg_iast dX7_takeBeast_37 (k7' hk0 14 (Nat.le_of_ble_eq_true rfl) (Nat.le_of_ble_eq_true rfl) rfl) o5.1 (by rw [(l7' hk0 14 (Nat.le_of_ble_eq_true rfl) (Nat.le_of_ble_eq_true rfl) rfl rfl)]; exact o5.2) ?_
          generalize hM : stI M (p0 + 7) (gI M p0 3).toNat a1 = M6
          replace h := h _ hM.symm
          replace hS : ShX M6 := by rw [← hM]; exact hS
          clear hM
          refine wg_aload_n dX7_takeBeast_38 rfl (kn7 hk0) ?_
          refine wg_dup dX7_takeBeast_39 rfl ?_
          refine wg_getI dX7_takeBeast_40 (fl_X7_21 rfl) rfl hk0 ?_
          refine wg_iconst dX7_takeBeast_43 qiconst_1 ?_
          obtain ⟨o, h⟩ := h
          refine wg_iadd dX7_takeBeast_44 o ?_
          refine wg_putI dX7_takeBeast_45 (fl_X7_21 rfl) rfl rfl hk0 ?_
          generalize hM : stI M6 p0 3 ((gI M6 p0 3) + 1) = M7
          replace h := h _ hM.symm
          replace hS : ShX M7 := by rw [← hM]; exact hS
          clear hM
          refine wg_iconst dX7_takeBeast_48 qiconst_1 ?_
          exact wp_zret rfl dX7_takeBeast_49 ⟨Nat.le_refl _, Nat.le_refl _⟩ (Or.inr rfl) h
        · replace h := h.2 c4
          refine wg_iconst dX7_takeBeast_26 qiconst_0 ?_
          exact wp_zret rfl dX7_takeBeast_27 ⟨Nat.le_refl _, Nat.le_refl _⟩ (Or.inl rfl) h
set_option maxRecDepth 100000 in
theorem bX7_takeExchange_0 {G : GG} {d : Nat} {M : MM} {Q : Option AV → MM → Prop} (p0 : Nat) (hk0 : kd p0 = 7) (a1 : Int) (a2 : Int) (a3 : Int) (a4 : Int) (hS : ShX M) (h :
((gI M p0 4) < 0 →
(Ok G mX7_isOneFigure d 0 0 [vI a3] M (fun v M2 => ∃ r3 : Int, v = some (vI r3) ∧ ShX M2 ∧ 
((r3 = 0 →
(Q (some (vI 0)) M2)) ∧
(¬ (r3 = 0) →
(Ok G mX7_isOneFigure d 0 0 [vI a4] M2 (fun v M5 => ∃ r6 : Int, v = some (vI r6) ∧ ShX M5 ∧ 
(Q (some (vI 0)) M5)))))))) ∧
(¬ ((gI M p0 4) < 0) →
(Ok G mX7_isOneFigure d 0 0 [vI a3] M (fun v M10 => ∃ r11 : Int, v = some (vI r11) ∧ ShX M10 ∧ 
((r11 = 0 →
(((if 6 ≤ (gI M p0 4) then (0 : Int) else 1) = 0 →
(Q (some (vI 0)) M10)) ∧
(¬ ((if 6 ≤ (gI M p0 4) then (0 : Int) else 1) = 0) →
(Q (some (vI 0)) M10)))) ∧
(¬ (r11 = 0) →
(Ok G mX7_isOneFigure d 0 0 [vI a4] M10 (fun v M14 => ∃ r15 : Int, v = some (vI r15) ∧ ShX M14 ∧ 
(((if 6 ≤ (gI M p0 4) then (0 : Int) else 1) = 0 →
(Q (some (vI 0)) M14)) ∧
(¬ ((if 6 ≤ (gI M p0 4) then (0 : Int) else 1) = 0) →
(((if r15 = 0 then (0 : Int) else 1) = 0 →
(Q (some (vI 0)) M14)) ∧
(¬ ((if r15 = 0 then (0 : Int) else 1) = 0) →
(Ok G mX7_areTwoThings d 0 0 [vR p0, vI a1, vI a2] M14 (fun v M19 => ∃ r20 : Int, v = some (vI r20) ∧ ShX M19 ∧ 
((r20 ≠ 0 →
(((0 : Int) ≤ gI M19 p0 4 ∧ (gI M19 p0 4 : Int) < 6) ∧
(∀ M23 : MM, M23 = stI M19 (p0 + 8) (gI M19 p0 4).toNat a1 →
(((0 : Int) ≤ gI M23 p0 4 ∧ (gI M23 p0 4 : Int) < 6) ∧
(∀ M25 : MM, M25 = stI M23 (p0 + 9) (gI M23 p0 4).toNat a2 →
(((0 : Int) ≤ gI M25 p0 4 ∧ (gI M25 p0 4 : Int) < 6) ∧
(∀ M27 : MM, M27 = stI M25 (p0 + 10) (gI M25 p0 4).toNat a3 →
(((0 : Int) ≤ gI M27 p0 4 ∧ (gI M27 p0 4 : Int) < 6) ∧
(∀ M29 : MM, M29 = stI M27 (p0 + 11) (gI M27 p0 4).toNat a4 →
(R32 ((gI M29 p0 4) + 1) ∧
(∀ M30 : MM, M30 = stI M29 p0 4 ((gI M29 p0 4) + 1) →
(Q (some (vI 1)) M30)))))))))))) ∧
(r20 = 0 →
(Q (some (vI 0)) M19))))))))))))))))) :
  Wp G mX7_takeExchange (d + 1) 0 0 0 [some (vR p0), some (vI a1), some (vI a2), some (vI a3), some (vI a4), none, none] [] M 0 0 Q := by
  refine wg_aload_n dX7_takeExchange_0 rfl (kn7 hk0) ?_
  refine wg_getI dX7_takeExchange_1 (fl_X7_24 rfl) rfl hk0 ?_
  refine wg_if_lt dX7_takeExchange_4 rfl (fun c1 => ?_) (fun c1 => ?_)
  · replace h := h.1 c1
    refine wg_iconst dX7_takeExchange_20 qiconst_0 ?_
    refine wg_istore (L' := [some (vR p0), some (vI a1), some (vI a2), some (vI a3), some (vI a4), some (vI 0), none]) dX7_takeExchange_21 (Nat.le_of_ble_eq_true rfl) rfl ?_
    refine wg_iload_n dX7_takeExchange_23 rfl ?_
    refine wg_callS (I' := mX7_isOneFigure) (np := 1) (d' := d) (as := [vI a3]) (st := []) dX7_takeExchange_24 lk_X7_91 ci_X7_isOneFigure rfl rfl (Nat.le_of_ble_eq_true rfl) (Nat.le_refl _) ⟨Nat.le_refl _, Nat.le_refl _⟩ h (fun v M2 h => ?_)
    obtain ⟨r3, rfl, hS, h⟩ := h
    refine wg_if_eq dX7_takeExchange_27 rfl (fun c4 => ?_) (fun c4 => ?_)
    · replace h := h.1 c4
      refine wg_iconst dX7_takeExchange_42 qiconst_0 ?_
      refine wg_istore (L' := [some (vR p0), some (vI a1), some (vI a2), some (vI a3), some (vI a4), some (vI 0), some (vI 0)]) dX7_takeExchange_43 (Nat.le_of_ble_eq_true rfl) rfl ?_
      refine wg_iload dX7_takeExchange_45 rfl ?_
      refine wg_if_eq dX7_takeExchange_47 rfl (fun _ => ?_) (fun c => absurd c (by decide))
      refine wg_iconst dX7_takeExchange_64 qiconst_0 ?_
      exact wp_zret rfl dX7_takeExchange_65 ⟨Nat.le_refl _, Nat.le_refl _⟩ (Or.inl rfl) h
    · replace h := h.2 c4
      refine wg_iload dX7_takeExchange_30 rfl ?_
      refine wg_callS (I' := mX7_isOneFigure) (np := 1) (d' := d) (as := [vI a4]) (st := []) dX7_takeExchange_32 lk_X7_91 ci_X7_isOneFigure rfl rfl (Nat.le_of_ble_eq_true rfl) (Nat.le_refl _) ⟨Nat.le_refl _, Nat.le_refl _⟩ h (fun v M5 h => ?_)
      obtain ⟨r6, rfl, hS, h⟩ := h
      have hJ8 : Wp G mX7_takeExchange (d + 1) 0 0 43 [some (vR p0), some (vI a1), some (vI a2), some (vI a3), some (vI a4), some (vI 0), none] [vI (if r6 = 0 then (0 : Int) else 1)] M5 0 0 Q := by
        refine wg_istore (L' := [some (vR p0), some (vI a1), some (vI a2), some (vI a3), some (vI a4), some (vI 0), some (vI (if r6 = 0 then (0 : Int) else 1))]) dX7_takeExchange_43 (Nat.le_of_ble_eq_true rfl) rfl ?_
        refine wg_iload dX7_takeExchange_45 rfl ?_
        refine wg_if_eq dX7_takeExchange_47 rfl (fun _ => ?_) (fun c => absurd c (by decide))
        refine wg_iconst dX7_takeExchange_64 qiconst_0 ?_
        exact wp_zret rfl dX7_takeExchange_65 ⟨Nat.le_refl _, Nat.le_refl _⟩ (Or.inl rfl) h
      refine wg_if_eq dX7_takeExchange_35 rfl (fun c7 => ?_) (fun c7 => ?_)
      · rw [show (if r6 = 0 then (0 : Int) else 1) = 0 from if_pos c7] at hJ8
        refine wg_iconst dX7_takeExchange_42 qiconst_0 ?_
        exact hJ8
      · rw [show (if r6 = 0 then (0 : Int) else 1) = 1 from if_neg c7] at hJ8
        refine wg_iconst dX7_takeExchange_38 qiconst_1 ?_
        refine wg_goto dX7_takeExchange_39 rfl ?_
        exact hJ8
  · replace h := h.2 c1
    refine wg_aload_n dX7_takeExchange_7 rfl (kn7 hk0) ?_
    refine wg_getI dX7_takeExchange_8 (fl_X7_24 rfl) rfl hk0 ?_
    refine wg_bipush dX7_takeExchange_11 qbipush_6 ?_
    have hJ32 : Wp G mX7_takeExchange (d + 1) 0 0 21 [some (vR p0), some (vI a1), some (vI a2), some (vI a3), some (vI a4), none, none] [vI (if 6 ≤ (gI M p0 4) then (0 : Int) else 1)] M 0 0 Q := by
      refine wg_istore (L' := [some (vR p0), some (vI a1), some (vI a2), some (vI a3), some (vI a4), some (vI (if 6 ≤ (gI M p0 4) then (0 : Int) else 1)), none]) dX7_takeExchange_21 (Nat.le_of_ble_eq_true rfl) rfl ?_
      refine wg_iload_n dX7_takeExchange_23 rfl ?_
      refine wg_callS (I' := mX7_isOneFigure) (np := 1) (d' := d) (as := [vI a3]) (st := []) dX7_takeExchange_24 lk_X7_91 ci_X7_isOneFigure rfl rfl (Nat.le_of_ble_eq_true rfl) (Nat.le_refl _) ⟨Nat.le_refl _, Nat.le_refl _⟩ h (fun v M10 h => ?_)
      obtain ⟨r11, rfl, hS, h⟩ := h
      refine wg_if_eq dX7_takeExchange_27 rfl (fun c12 => ?_) (fun c12 => ?_)
      · replace h := h.1 c12
        refine wg_iconst dX7_takeExchange_42 qiconst_0 ?_
        refine wg_istore (L' := [some (vR p0), some (vI a1), some (vI a2), some (vI a3), some (vI a4), some (vI (if 6 ≤ (gI M p0 4) then (0 : Int) else 1)), some (vI 0)]) dX7_takeExchange_43 (Nat.le_of_ble_eq_true rfl) rfl ?_
        refine wg_iload dX7_takeExchange_45 rfl ?_
        refine wg_if_eq dX7_takeExchange_47 rfl (fun c13 => ?_) (fun c13 => ?_)
        · replace h := h.1 c13
          refine wg_iconst dX7_takeExchange_64 qiconst_0 ?_
          exact wp_zret rfl dX7_takeExchange_65 ⟨Nat.le_refl _, Nat.le_refl _⟩ (Or.inl rfl) h
        · replace h := h.2 c13
          refine wg_iload dX7_takeExchange_50 rfl ?_
          refine wg_if_eq dX7_takeExchange_52 rfl (fun _ => ?_) (fun c => absurd c (by decide))
          refine wg_iconst dX7_takeExchange_64 qiconst_0 ?_
          exact wp_zret rfl dX7_takeExchange_65 ⟨Nat.le_refl _, Nat.le_refl _⟩ (Or.inl rfl) h
      · replace h := h.2 c12
        refine wg_iload dX7_takeExchange_30 rfl ?_
        refine wg_callS (I' := mX7_isOneFigure) (np := 1) (d' := d) (as := [vI a4]) (st := []) dX7_takeExchange_32 lk_X7_91 ci_X7_isOneFigure rfl rfl (Nat.le_of_ble_eq_true rfl) (Nat.le_refl _) ⟨Nat.le_refl _, Nat.le_refl _⟩ h (fun v M14 h => ?_)
        obtain ⟨r15, rfl, hS, h⟩ := h
        have hJ31 : Wp G mX7_takeExchange (d + 1) 0 0 43 [some (vR p0), some (vI a1), some (vI a2), some (vI a3), some (vI a4), some (vI (if 6 ≤ (gI M p0 4) then (0 : Int) else 1)), none] [vI (if r15 = 0 then (0 : Int) else 1)] M14 0 0 Q := by
          refine wg_istore (L' := [some (vR p0), some (vI a1), some (vI a2), some (vI a3), some (vI a4), some (vI (if 6 ≤ (gI M p0 4) then (0 : Int) else 1)), some (vI (if r15 = 0 then (0 : Int) else 1))]) dX7_takeExchange_43 (Nat.le_of_ble_eq_true rfl) rfl ?_
          refine wg_iload dX7_takeExchange_45 rfl ?_
          refine wg_if_eq dX7_takeExchange_47 rfl (fun c17 => ?_) (fun c17 => ?_)
          · replace h := h.1 c17
            refine wg_iconst dX7_takeExchange_64 qiconst_0 ?_
            exact wp_zret rfl dX7_takeExchange_65 ⟨Nat.le_refl _, Nat.le_refl _⟩ (Or.inl rfl) h
          · replace h := h.2 c17
            refine wg_iload dX7_takeExchange_50 rfl ?_
            refine wg_if_eq dX7_takeExchange_52 rfl (fun c18 => ?_) (fun c18 => ?_)
            · replace h := h.1 c18
              refine wg_iconst dX7_takeExchange_64 qiconst_0 ?_
              exact wp_zret rfl dX7_takeExchange_65 ⟨Nat.le_refl _, Nat.le_refl _⟩ (Or.inl rfl) h
            · replace h := h.2 c18
              refine wg_aload_n dX7_takeExchange_55 rfl (kn7 hk0) ?_
              refine wg_iload_n dX7_takeExchange_56 rfl ?_
              refine wg_iload_n dX7_takeExchange_57 rfl ?_
              refine wg_callV (I' := mX7_areTwoThings) (ci := 7) (np := 2) (d' := d) (q := p0) (as := [vI a1, vI a2]) (st := []) dX7_takeExchange_58 lk_X7_88 ci_X7_areTwoThings rfl (Nat.le_of_ble_eq_true rfl) rfl rfl (Nat.le_of_ble_eq_true rfl) hk0 (Nat.le_refl _) ⟨Nat.le_refl _, Nat.le_refl _⟩ h (fun v M19 h => ?_)
              obtain ⟨r20, rfl, hS, h⟩ := h
              refine wg_if_ne dX7_takeExchange_61 rfl (fun c21 => ?_) (fun c21 => ?_)
              · replace h := h.1 c21
                refine wg_aload_n dX7_takeExchange_66 rfl (kn7 hk0) ?_
                refine wg_getRe dX7_takeExchange_67 (fl_X7_58 rfl) rfl hk0 (x7 hS hk0 15 (r := p0 + 8) (Nat.le_of_ble_eq_true rfl) (Nat.le_of_ble_eq_true rfl) rfl) ?_
                refine wg_aload_n dX7_takeExchange_70 rfl (kn7 hk0) ?_
                refine wg_getI dX7_takeExchange_71 (fl_X7_24 rfl) rfl hk0 ?_
                refine wg_iload_n dX7_takeExchange_74 rfl ?_
                obtain ⟨o22, h⟩ := h
                refine wg_iast dX7_takeExchange_75 (k7' hk0 15 (Nat.le_of_ble_eq_true rfl) (Nat.le_of_ble_eq_true rfl) rfl) o22.1 (by rw [(l7' hk0 15 (Nat.le_of_ble_eq_true rfl) (Nat.le_of_ble_eq_true rfl) rfl rfl)]; exact o22.2) ?_
                generalize hM : stI M19 (p0 + 8) (gI M19 p0 4).toNat a1 = M23
                replace h := h _ hM.symm
                replace hS : ShX M23 := by rw [← hM]; exact hS
                clear hM
                refine wg_aload_n dX7_takeExchange_76 rfl (kn7 hk0) ?_
                refine wg_getRe dX7_takeExchange_77 (fl_X7_61 rfl) rfl hk0 (x7 hS hk0 16 (r := p0 + 9) (Nat.le_of_ble_eq_true rfl) (Nat.le_of_ble_eq_true rfl) rfl) ?_
                refine wg_aload_n dX7_takeExchange_80 rfl (kn7 hk0) ?_
                refine wg_getI dX7_takeExchange_81 (fl_X7_24 rfl) rfl hk0 ?_
                refine wg_iload_n dX7_takeExchange_84 rfl ?_
                obtain ⟨o24, h⟩ := h
                refine wg_iast dX7_takeExchange_85 (k7' hk0 16 (Nat.le_of_ble_eq_true rfl) (Nat.le_of_ble_eq_true rfl) rfl) o24.1 (by rw [(l7' hk0 16 (Nat.le_of_ble_eq_true rfl) (Nat.le_of_ble_eq_true rfl) rfl rfl)]; exact o24.2) ?_
                generalize hM : stI M23 (p0 + 9) (gI M23 p0 4).toNat a2 = M25
                replace h := h _ hM.symm
                replace hS : ShX M25 := by rw [← hM]; exact hS
                clear hM
                refine wg_aload_n dX7_takeExchange_86 rfl (kn7 hk0) ?_
                refine wg_getRe dX7_takeExchange_87 (fl_X7_64 rfl) rfl hk0 (x7 hS hk0 17 (r := p0 + 10) (Nat.le_of_ble_eq_true rfl) (Nat.le_of_ble_eq_true rfl) rfl) ?_
                refine wg_aload_n dX7_takeExchange_90 rfl (kn7 hk0) ?_
                refine wg_getI dX7_takeExchange_91 (fl_X7_24 rfl) rfl hk0 ?_
                refine wg_iload_n dX7_takeExchange_94 rfl ?_
                obtain ⟨o26, h⟩ := h
                refine wg_iast dX7_takeExchange_95 (k7' hk0 17 (Nat.le_of_ble_eq_true rfl) (Nat.le_of_ble_eq_true rfl) rfl) o26.1 (by rw [(l7' hk0 17 (Nat.le_of_ble_eq_true rfl) (Nat.le_of_ble_eq_true rfl) rfl rfl)]; exact o26.2) ?_
                generalize hM : stI M25 (p0 + 10) (gI M25 p0 4).toNat a3 = M27
                replace h := h _ hM.symm
                replace hS : ShX M27 := by rw [← hM]; exact hS
                clear hM
                refine wg_aload_n dX7_takeExchange_96 rfl (kn7 hk0) ?_
                refine wg_getRe dX7_takeExchange_97 (fl_X7_67 rfl) rfl hk0 (x7 hS hk0 18 (r := p0 + 11) (Nat.le_of_ble_eq_true rfl) (Nat.le_of_ble_eq_true rfl) rfl) ?_
                refine wg_aload_n dX7_takeExchange_100 rfl (kn7 hk0) ?_
                refine wg_getI dX7_takeExchange_101 (fl_X7_24 rfl) rfl hk0 ?_
                refine wg_iload dX7_takeExchange_104 rfl ?_
                obtain ⟨o28, h⟩ := h
                refine wg_iast dX7_takeExchange_106 (k7' hk0 18 (Nat.le_of_ble_eq_true rfl) (Nat.le_of_ble_eq_true rfl) rfl) o28.1 (by rw [(l7' hk0 18 (Nat.le_of_ble_eq_true rfl) (Nat.le_of_ble_eq_true rfl) rfl rfl)]; exact o28.2) ?_
                generalize hM : stI M27 (p0 + 11) (gI M27 p0 4).toNat a4 = M29
                replace h := h _ hM.symm
                replace hS : ShX M29 := by rw [← hM]; exact hS
                clear hM
                refine wg_aload_n dX7_takeExchange_107 rfl (kn7 hk0) ?_
                refine wg_dup dX7_takeExchange_108 rfl ?_
                refine wg_getI dX7_takeExchange_109 (fl_X7_24 rfl) rfl hk0 ?_
                refine wg_iconst dX7_takeExchange_112 qiconst_1 ?_
                obtain ⟨o, h⟩ := h
                refine wg_iadd dX7_takeExchange_113 o ?_
                refine wg_putI dX7_takeExchange_114 (fl_X7_24 rfl) rfl rfl hk0 ?_
                generalize hM : stI M29 p0 4 ((gI M29 p0 4) + 1) = M30
                replace h := h _ hM.symm
                replace hS : ShX M30 := by rw [← hM]; exact hS
                clear hM
                refine wg_iconst dX7_takeExchange_117 qiconst_1 ?_
                exact wp_zret rfl dX7_takeExchange_118 ⟨Nat.le_refl _, Nat.le_refl _⟩ (Or.inr rfl) h
              · replace h := h.2 c21
                refine wg_iconst dX7_takeExchange_64 qiconst_0 ?_
                exact wp_zret rfl dX7_takeExchange_65 ⟨Nat.le_refl _, Nat.le_refl _⟩ (Or.inl rfl) h
        refine wg_if_eq dX7_takeExchange_35 rfl (fun c16 => ?_) (fun c16 => ?_)
        · rw [show (if r15 = 0 then (0 : Int) else 1) = 0 from if_pos c16] at hJ31
          refine wg_iconst dX7_takeExchange_42 qiconst_0 ?_
          exact hJ31
        · rw [show (if r15 = 0 then (0 : Int) else 1) = 1 from if_neg c16] at hJ31
          refine wg_iconst dX7_takeExchange_38 qiconst_1 ?_
          refine wg_goto dX7_takeExchange_39 rfl ?_
          exact hJ31
    refine wg_icmp_ge dX7_takeExchange_13 rfl (fun c9 => ?_) (fun c9 => ?_)
    · rw [show (if 6 ≤ (gI M p0 4) then (0 : Int) else 1) = 0 from if_pos c9] at hJ32
      refine wg_iconst dX7_takeExchange_20 qiconst_0 ?_
      exact hJ32
    · rw [show (if 6 ≤ (gI M p0 4) then (0 : Int) else 1) = 1 from if_neg c9] at hJ32
      refine wg_iconst dX7_takeExchange_16 qiconst_1 ?_
      refine wg_goto dX7_takeExchange_17 rfl ?_
      exact hJ32
set_option maxRecDepth 100000 in
theorem bX7_areTwoThings_0 {G : GG} {d : Nat} {M : MM} {Q : Option AV → MM → Prop} (p0 : Nat) (hk0 : kd p0 = 7) (a1 : Int) (a2 : Int) (hS : ShX M) (h :
((gI M p0 0) ≤ a1 →
(Q (some (vI 0)) M)) ∧
(¬ ((gI M p0 0) ≤ a1) →
(((gI M p0 0) ≤ a2 →
(Q (some (vI 0)) M)) ∧
(¬ ((gI M p0 0) ≤ a2) →
((a1 = a2 →
(Q (some (vI 0)) M)) ∧
(¬ (a1 = a2) →
(Q (some (vI 1)) M))))))) :
  Wp G mX7_areTwoThings d 0 0 0 [some (vR p0), some (vI a1), some (vI a2)] [] M 0 0 Q := by
  refine wg_iload_n dX7_areTwoThings_0 rfl ?_
  refine wg_aload_n dX7_areTwoThings_1 rfl (kn7 hk0) ?_
  refine wg_getI dX7_areTwoThings_2 (fl_X7_9 rfl) rfl hk0 ?_
  refine wg_icmp_ge dX7_areTwoThings_5 rfl (fun c1 => ?_) (fun c1 => ?_)
  · replace h := h.1 c1
    refine wg_iconst dX7_areTwoThings_25 qiconst_0 ?_
    exact wp_zret rfl dX7_areTwoThings_26 ⟨Nat.le_refl _, Nat.le_refl _⟩ (Or.inl rfl) h
  · replace h := h.2 c1
    refine wg_iload_n dX7_areTwoThings_8 rfl ?_
    refine wg_aload_n dX7_areTwoThings_9 rfl (kn7 hk0) ?_
    refine wg_getI dX7_areTwoThings_10 (fl_X7_9 rfl) rfl hk0 ?_
    refine wg_icmp_ge dX7_areTwoThings_13 rfl (fun c2 => ?_) (fun c2 => ?_)
    · replace h := h.1 c2
      refine wg_iconst dX7_areTwoThings_25 qiconst_0 ?_
      exact wp_zret rfl dX7_areTwoThings_26 ⟨Nat.le_refl _, Nat.le_refl _⟩ (Or.inl rfl) h
    · replace h := h.2 c2
      refine wg_iload_n dX7_areTwoThings_16 rfl ?_
      refine wg_iload_n dX7_areTwoThings_17 rfl ?_
      refine wg_icmp_eq dX7_areTwoThings_18 rfl (fun c3 => ?_) (fun c3 => ?_)
      · replace h := h.1 c3
        refine wg_iconst dX7_areTwoThings_25 qiconst_0 ?_
        exact wp_zret rfl dX7_areTwoThings_26 ⟨Nat.le_refl _, Nat.le_refl _⟩ (Or.inl rfl) h
      · replace h := h.2 c3
        refine wg_iconst dX7_areTwoThings_21 qiconst_1 ?_
        refine wg_goto dX7_areTwoThings_22 rfl ?_
        exact wp_zret rfl dX7_areTwoThings_26 ⟨Nat.le_refl _, Nat.le_refl _⟩ (Or.inr rfl) h
set_option maxRecDepth 100000 in
theorem bX7_isOneFigure_0 {G : GG} {d : Nat} {M : MM} {Q : Option AV → MM → Prop} (a0 : Int) (h :
(a0 < 1 →
(Q (some (vI 0)) M)) ∧
(¬ (a0 < 1) →
((9 < a0 →
(Q (some (vI 0)) M)) ∧
(¬ (9 < a0) →
(Q (some (vI 1)) M))))) :
  Wp G mX7_isOneFigure d 0 0 0 [some (vI a0)] [] M 0 0 Q := by
  refine wg_iload_n dX7_isOneFigure_0 rfl ?_
  refine wg_iconst dX7_isOneFigure_1 qiconst_1 ?_
  refine wg_icmp_lt dX7_isOneFigure_2 rfl (fun c1 => ?_) (fun c1 => ?_)
  · replace h := h.1 c1
    refine wg_iconst dX7_isOneFigure_15 qiconst_0 ?_
    exact wp_zret rfl dX7_isOneFigure_16 ⟨Nat.le_refl _, Nat.le_refl _⟩ (Or.inl rfl) h
  · replace h := h.2 c1
    refine wg_iload_n dX7_isOneFigure_5 rfl ?_
    refine wg_bipush dX7_isOneFigure_6 qbipush_9 ?_
    refine wg_icmp_gt dX7_isOneFigure_8 rfl (fun c2 => ?_) (fun c2 => ?_)
    · replace h := h.1 c2
      refine wg_iconst dX7_isOneFigure_15 qiconst_0 ?_
      exact wp_zret rfl dX7_isOneFigure_16 ⟨Nat.le_refl _, Nat.le_refl _⟩ (Or.inl rfl) h
    · replace h := h.2 c2
      refine wg_iconst dX7_isOneFigure_11 qiconst_1 ?_
      refine wg_goto dX7_isOneFigure_12 rfl ?_
      exact wp_zret rfl dX7_isOneFigure_16 ⟨Nat.le_refl _, Nat.le_refl _⟩ (Or.inr rfl) h
set_option maxRecDepth 100000 in
theorem bX7_entry_0 {G : GG} {d : Nat} {M : MM} {Q : Option AV → MM → Prop} (p0 : Nat) (hk0 : kd p0 = 10) (a1 : Int) (hS : ShX M) (h :
(a1 < 0 →
(Q (some (vI 0)) M)) ∧
(¬ (a1 < 0) →
(((ln p0 : Int) ≤ a1 →
(Q (some (vI 0)) M)) ∧
(¬ ((ln p0 : Int) ≤ a1) →
(((0 : Int) ≤ a1 ∧ (a1 : Int) < (ln p0 : Int)) ∧
(Q (some (vI (gI M p0 a1.toNat))) M)))))) :
  Wp G mX7_entry d 0 0 0 [some (vR p0), some (vI a1)] [] M 0 0 Q := by
  refine wg_iload_n dX7_entry_0 rfl ?_
  refine wg_if_lt dX7_entry_1 rfl (fun c1 => ?_) (fun c1 => ?_)
  · replace h := h.1 c1
    refine wg_iconst dX7_entry_16 qiconst_0 ?_
    exact wp_iret rfl dX7_entry_17 ⟨Nat.le_refl _, Nat.le_refl _⟩ h
  · replace h := h.2 c1
    refine wg_iload_n dX7_entry_4 rfl ?_
    refine wg_aload_n dX7_entry_5 rfl (kn10 hk0) ?_
    refine wg_alen dX7_entry_6 (Or.inl hk0) ?_
    refine wg_icmp_ge dX7_entry_7 rfl (fun c2 => ?_) (fun c2 => ?_)
    · replace h := h.1 c2
      refine wg_iconst dX7_entry_16 qiconst_0 ?_
      exact wp_iret rfl dX7_entry_17 ⟨Nat.le_refl _, Nat.le_refl _⟩ h
    · replace h := h.2 c2
      refine wg_aload_n dX7_entry_10 rfl (kn10 hk0) ?_
      refine wg_iload_n dX7_entry_11 rfl ?_
      obtain ⟨o3, h⟩ := h
      refine wg_iald dX7_entry_12 hk0 o3.1 o3.2 ?_
      refine wg_goto dX7_entry_13 rfl ?_
      exact wp_iret rfl dX7_entry_17 ⟨Nat.le_refl _, Nat.le_refl _⟩ h
set_option maxRecDepth 100000 in
theorem bX7_strengthOfThing_0 {G : GG} {d : Nat} {M : MM} {Q : Option AV → MM → Prop} (p0 : Nat) (hk0 : kd p0 = 7) (a1 : Int) (hS : ShX M) (h :
Ok G mX7_entry d 0 0 [vR (p0 + 1), vI a1] M (fun v M1 => ∃ r2 : Int, v = some (vI r2) ∧ ShX M1 ∧ 
(Q (some (vI r2)) M1))) :
  Wp G mX7_strengthOfThing (d + 1) 0 0 0 [some (vR p0), some (vI a1)] [] M 0 0 Q := by
  refine wg_aload_n dX7_strengthOfThing_0 rfl (kn7 hk0) ?_
  refine wg_getRe dX7_strengthOfThing_1 (fl_X7_36 rfl) rfl hk0 (x7 hS hk0 8 (r := p0 + 1) (Nat.le_of_ble_eq_true rfl) (Nat.le_of_ble_eq_true rfl) rfl) ?_
  refine wg_iload_n dX7_strengthOfThing_4 rfl ?_
  refine wg_callS (I' := mX7_entry) (np := 2) (d' := d) (as := [vR (p0 + 1), vI a1]) (st := []) dX7_strengthOfThing_5 lk_X7_94 ci_X7_entry rfl rfl (Nat.le_of_ble_eq_true rfl) (Nat.le_refl _) ⟨Nat.le_refl _, Nat.le_refl _⟩ h (fun v M1 h => ?_)
  obtain ⟨r2, rfl, hS, h⟩ := h
  exact wp_iret rfl dX7_strengthOfThing_8 ⟨Nat.le_refl _, Nat.le_refl _⟩ h
set_option maxRecDepth 100000 in
theorem bX7_kindOfThing_0 {G : GG} {d : Nat} {M : MM} {Q : Option AV → MM → Prop} (p0 : Nat) (hk0 : kd p0 = 7) (a1 : Int) (hS : ShX M) (h :
Ok G mX7_entry d 0 0 [vR (p0 + 2), vI a1] M (fun v M1 => ∃ r2 : Int, v = some (vI r2) ∧ ShX M1 ∧ 
(Q (some (vI r2)) M1))) :
  Wp G mX7_kindOfThing (d + 1) 0 0 0 [some (vR p0), some (vI a1)] [] M 0 0 Q := by
  refine wg_aload_n dX7_kindOfThing_0 rfl (kn7 hk0) ?_
  refine wg_getRe dX7_kindOfThing_1 (fl_X7_40 rfl) rfl hk0 (x7 hS hk0 9 (r := p0 + 2) (Nat.le_of_ble_eq_true rfl) (Nat.le_of_ble_eq_true rfl) rfl) ?_
  refine wg_iload_n dX7_kindOfThing_4 rfl ?_
  refine wg_callS (I' := mX7_entry) (np := 2) (d' := d) (as := [vR (p0 + 2), vI a1]) (st := []) dX7_kindOfThing_5 lk_X7_94 ci_X7_entry rfl rfl (Nat.le_of_ble_eq_true rfl) (Nat.le_refl _) ⟨Nat.le_refl _, Nat.le_refl _⟩ h (fun v M1 h => ?_)
  obtain ⟨r2, rfl, hS, h⟩ := h
  exact wp_iret rfl dX7_kindOfThing_8 ⟨Nat.le_refl _, Nat.le_refl _⟩ h
set_option maxRecDepth 100000 in
theorem bX7_neederOf_0 {G : GG} {d : Nat} {M : MM} {Q : Option AV → MM → Prop} (p0 : Nat) (hk0 : kd p0 = 7) (a1 : Int) (hS : ShX M) (h :
Ok G mX7_entry d 0 0 [vR (p0 + 3), vI a1] M (fun v M1 => ∃ r2 : Int, v = some (vI r2) ∧ ShX M1 ∧ 
(Q (some (vI r2)) M1))) :
  Wp G mX7_neederOf (d + 1) 0 0 0 [some (vR p0), some (vI a1)] [] M 0 0 Q := by
  refine wg_aload_n dX7_neederOf_0 rfl (kn7 hk0) ?_
  refine wg_getRe dX7_neederOf_1 (fl_X7_43 rfl) rfl hk0 (x7 hS hk0 10 (r := p0 + 3) (Nat.le_of_ble_eq_true rfl) (Nat.le_of_ble_eq_true rfl) rfl) ?_
  refine wg_iload_n dX7_neederOf_4 rfl ?_
  refine wg_callS (I' := mX7_entry) (np := 2) (d' := d) (as := [vR (p0 + 3), vI a1]) (st := []) dX7_neederOf_5 lk_X7_94 ci_X7_entry rfl rfl (Nat.le_of_ble_eq_true rfl) (Nat.le_refl _) ⟨Nat.le_refl _, Nat.le_refl _⟩ h (fun v M1 h => ?_)
  obtain ⟨r2, rfl, hS, h⟩ := h
  exact wp_iret rfl dX7_neederOf_8 ⟨Nat.le_refl _, Nat.le_refl _⟩ h
set_option maxRecDepth 100000 in
theorem bX7_neededOf_0 {G : GG} {d : Nat} {M : MM} {Q : Option AV → MM → Prop} (p0 : Nat) (hk0 : kd p0 = 7) (a1 : Int) (hS : ShX M) (h :
Ok G mX7_entry d 0 0 [vR (p0 + 4), vI a1] M (fun v M1 => ∃ r2 : Int, v = some (vI r2) ∧ ShX M1 ∧ 
(Q (some (vI r2)) M1))) :
  Wp G mX7_neededOf (d + 1) 0 0 0 [some (vR p0), some (vI a1)] [] M 0 0 Q := by
  refine wg_aload_n dX7_neededOf_0 rfl (kn7 hk0) ?_
  refine wg_getRe dX7_neededOf_1 (fl_X7_46 rfl) rfl hk0 (x7 hS hk0 11 (r := p0 + 4) (Nat.le_of_ble_eq_true rfl) (Nat.le_of_ble_eq_true rfl) rfl) ?_
  refine wg_iload_n dX7_neededOf_4 rfl ?_
  refine wg_callS (I' := mX7_entry) (np := 2) (d' := d) (as := [vR (p0 + 4), vI a1]) (st := []) dX7_neededOf_5 lk_X7_94 ci_X7_entry rfl rfl (Nat.le_of_ble_eq_true rfl) (Nat.le_refl _) ⟨Nat.le_refl _, Nat.le_refl _⟩ h (fun v M1 h => ?_)
  obtain ⟨r2, rfl, hS, h⟩ := h
  exact wp_iret rfl dX7_neededOf_8 ⟨Nat.le_refl _, Nat.le_refl _⟩ h
set_option maxRecDepth 100000 in
theorem bX7_thingOfPerson_0 {G : GG} {d : Nat} {M : MM} {Q : Option AV → MM → Prop} (p0 : Nat) (hk0 : kd p0 = 7) (a1 : Int) (hS : ShX M) (h :
Ok G mX7_entry d 0 0 [vR (p0 + 5), vI a1] M (fun v M1 => ∃ r2 : Int, v = some (vI r2) ∧ ShX M1 ∧ 
(Q (some (vI r2)) M1))) :
  Wp G mX7_thingOfPerson (d + 1) 0 0 0 [some (vR p0), some (vI a1)] [] M 0 0 Q := by
  refine wg_aload_n dX7_thingOfPerson_0 rfl (kn7 hk0) ?_
  refine wg_getRe dX7_thingOfPerson_1 (fl_X7_49 rfl) rfl hk0 (x7 hS hk0 12 (r := p0 + 5) (Nat.le_of_ble_eq_true rfl) (Nat.le_of_ble_eq_true rfl) rfl) ?_
  refine wg_iload_n dX7_thingOfPerson_4 rfl ?_
  refine wg_callS (I' := mX7_entry) (np := 2) (d' := d) (as := [vR (p0 + 5), vI a1]) (st := []) dX7_thingOfPerson_5 lk_X7_94 ci_X7_entry rfl rfl (Nat.le_of_ble_eq_true rfl) (Nat.le_refl _) ⟨Nat.le_refl _, Nat.le_refl _⟩ h (fun v M1 h => ?_)
  obtain ⟨r2, rfl, hS, h⟩ := h
  exact wp_iret rfl dX7_thingOfPerson_8 ⟨Nat.le_refl _, Nat.le_refl _⟩ h
set_option maxRecDepth 100000 in
theorem bX7_weightOfPerson_0 {G : GG} {d : Nat} {M : MM} {Q : Option AV → MM → Prop} (p0 : Nat) (hk0 : kd p0 = 7) (a1 : Int) (hS : ShX M) (h :
Ok G mX7_entry d 0 0 [vR (p0 + 6), vI a1] M (fun v M1 => ∃ r2 : Int, v = some (vI r2) ∧ ShX M1 ∧ 
(Q (some (vI r2)) M1))) :
  Wp G mX7_weightOfPerson (d + 1) 0 0 0 [some (vR p0), some (vI a1)] [] M 0 0 Q := by
  refine wg_aload_n dX7_weightOfPerson_0 rfl (kn7 hk0) ?_
  refine wg_getRe dX7_weightOfPerson_1 (fl_X7_52 rfl) rfl hk0 (x7 hS hk0 13 (r := p0 + 6) (Nat.le_of_ble_eq_true rfl) (Nat.le_of_ble_eq_true rfl) rfl) ?_
  refine wg_iload_n dX7_weightOfPerson_4 rfl ?_
  refine wg_callS (I' := mX7_entry) (np := 2) (d' := d) (as := [vR (p0 + 6), vI a1]) (st := []) dX7_weightOfPerson_5 lk_X7_94 ci_X7_entry rfl rfl (Nat.le_of_ble_eq_true rfl) (Nat.le_refl _) ⟨Nat.le_refl _, Nat.le_refl _⟩ h (fun v M1 h => ?_)
  obtain ⟨r2, rfl, hS, h⟩ := h
  exact wp_iret rfl dX7_weightOfPerson_8 ⟨Nat.le_refl _, Nat.le_refl _⟩ h
set_option maxRecDepth 100000 in
theorem bX7_pullOfBeast_0 {G : GG} {d : Nat} {M : MM} {Q : Option AV → MM → Prop} (p0 : Nat) (hk0 : kd p0 = 7) (a1 : Int) (hS : ShX M) (h :
Ok G mX7_entry d 0 0 [vR (p0 + 7), vI a1] M (fun v M1 => ∃ r2 : Int, v = some (vI r2) ∧ ShX M1 ∧ 
(Q (some (vI r2)) M1))) :
  Wp G mX7_pullOfBeast (d + 1) 0 0 0 [some (vR p0), some (vI a1)] [] M 0 0 Q := by
  refine wg_aload_n dX7_pullOfBeast_0 rfl (kn7 hk0) ?_
  refine wg_getRe dX7_pullOfBeast_1 (fl_X7_55 rfl) rfl hk0 (x7 hS hk0 14 (r := p0 + 7) (Nat.le_of_ble_eq_true rfl) (Nat.le_of_ble_eq_true rfl) rfl) ?_
  refine wg_iload_n dX7_pullOfBeast_4 rfl ?_
  refine wg_callS (I' := mX7_entry) (np := 2) (d' := d) (as := [vR (p0 + 7), vI a1]) (st := []) dX7_pullOfBeast_5 lk_X7_94 ci_X7_entry rfl rfl (Nat.le_of_ble_eq_true rfl) (Nat.le_refl _) ⟨Nat.le_refl _, Nat.le_refl _⟩ h (fun v M1 h => ?_)
  obtain ⟨r2, rfl, hS, h⟩ := h
  exact wp_iret rfl dX7_pullOfBeast_8 ⟨Nat.le_refl _, Nat.le_refl _⟩ h
set_option maxRecDepth 100000 in
theorem bX7_takenBy_0 {G : GG} {d : Nat} {M : MM} {Q : Option AV → MM → Prop} (p0 : Nat) (hk0 : kd p0 = 7) (a1 : Int) (hS : ShX M) (h :
Ok G mX7_entry d 0 0 [vR (p0 + 8), vI a1] M (fun v M1 => ∃ r2 : Int, v = some (vI r2) ∧ ShX M1 ∧ 
(Q (some (vI r2)) M1))) :
  Wp G mX7_takenBy (d + 1) 0 0 0 [some (vR p0), some (vI a1)] [] M 0 0 Q := by
  refine wg_aload_n dX7_takenBy_0 rfl (kn7 hk0) ?_
  refine wg_getRe dX7_takenBy_1 (fl_X7_58 rfl) rfl hk0 (x7 hS hk0 15 (r := p0 + 8) (Nat.le_of_ble_eq_true rfl) (Nat.le_of_ble_eq_true rfl) rfl) ?_
  refine wg_iload_n dX7_takenBy_4 rfl ?_
  refine wg_callS (I' := mX7_entry) (np := 2) (d' := d) (as := [vR (p0 + 8), vI a1]) (st := []) dX7_takenBy_5 lk_X7_94 ci_X7_entry rfl rfl (Nat.le_of_ble_eq_true rfl) (Nat.le_refl _) ⟨Nat.le_refl _, Nat.le_refl _⟩ h (fun v M1 h => ?_)
  obtain ⟨r2, rfl, hS, h⟩ := h
  exact wp_iret rfl dX7_takenBy_8 ⟨Nat.le_refl _, Nat.le_refl _⟩ h
set_option maxRecDepth 100000 in
theorem bX7_givenBy_0 {G : GG} {d : Nat} {M : MM} {Q : Option AV → MM → Prop} (p0 : Nat) (hk0 : kd p0 = 7) (a1 : Int) (hS : ShX M) (h :
Ok G mX7_entry d 0 0 [vR (p0 + 9), vI a1] M (fun v M1 => ∃ r2 : Int, v = some (vI r2) ∧ ShX M1 ∧ 
(Q (some (vI r2)) M1))) :
  Wp G mX7_givenBy (d + 1) 0 0 0 [some (vR p0), some (vI a1)] [] M 0 0 Q := by
  refine wg_aload_n dX7_givenBy_0 rfl (kn7 hk0) ?_
  refine wg_getRe dX7_givenBy_1 (fl_X7_61 rfl) rfl hk0 (x7 hS hk0 16 (r := p0 + 9) (Nat.le_of_ble_eq_true rfl) (Nat.le_of_ble_eq_true rfl) rfl) ?_
  refine wg_iload_n dX7_givenBy_4 rfl ?_
  refine wg_callS (I' := mX7_entry) (np := 2) (d' := d) (as := [vR (p0 + 9), vI a1]) (st := []) dX7_givenBy_5 lk_X7_94 ci_X7_entry rfl rfl (Nat.le_of_ble_eq_true rfl) (Nat.le_refl _) ⟨Nat.le_refl _, Nat.le_refl _⟩ h (fun v M1 h => ?_)
  obtain ⟨r2, rfl, hS, h⟩ := h
  exact wp_iret rfl dX7_givenBy_8 ⟨Nat.le_refl _, Nat.le_refl _⟩ h
set_option maxRecDepth 100000 in
theorem bX7_takenMuchBy_0 {G : GG} {d : Nat} {M : MM} {Q : Option AV → MM → Prop} (p0 : Nat) (hk0 : kd p0 = 7) (a1 : Int) (hS : ShX M) (h :
Ok G mX7_entry d 0 0 [vR (p0 + 10), vI a1] M (fun v M1 => ∃ r2 : Int, v = some (vI r2) ∧ ShX M1 ∧ 
(Q (some (vI r2)) M1))) :
  Wp G mX7_takenMuchBy (d + 1) 0 0 0 [some (vR p0), some (vI a1)] [] M 0 0 Q := by
  refine wg_aload_n dX7_takenMuchBy_0 rfl (kn7 hk0) ?_
  refine wg_getRe dX7_takenMuchBy_1 (fl_X7_64 rfl) rfl hk0 (x7 hS hk0 17 (r := p0 + 10) (Nat.le_of_ble_eq_true rfl) (Nat.le_of_ble_eq_true rfl) rfl) ?_
  refine wg_iload_n dX7_takenMuchBy_4 rfl ?_
  refine wg_callS (I' := mX7_entry) (np := 2) (d' := d) (as := [vR (p0 + 10), vI a1]) (st := []) dX7_takenMuchBy_5 lk_X7_94 ci_X7_entry rfl rfl (Nat.le_of_ble_eq_true rfl) (Nat.le_refl _) ⟨Nat.le_refl _, Nat.le_refl _⟩ h (fun v M1 h => ?_)
  obtain ⟨r2, rfl, hS, h⟩ := h
  exact wp_iret rfl dX7_takenMuchBy_8 ⟨Nat.le_refl _, Nat.le_refl _⟩ h
set_option maxRecDepth 100000 in
theorem bX7_givenMuchBy_0 {G : GG} {d : Nat} {M : MM} {Q : Option AV → MM → Prop} (p0 : Nat) (hk0 : kd p0 = 7) (a1 : Int) (hS : ShX M) (h :
Ok G mX7_entry d 0 0 [vR (p0 + 11), vI a1] M (fun v M1 => ∃ r2 : Int, v = some (vI r2) ∧ ShX M1 ∧ 
(Q (some (vI r2)) M1))) :
  Wp G mX7_givenMuchBy (d + 1) 0 0 0 [some (vR p0), some (vI a1)] [] M 0 0 Q := by
  refine wg_aload_n dX7_givenMuchBy_0 rfl (kn7 hk0) ?_
  refine wg_getRe dX7_givenMuchBy_1 (fl_X7_67 rfl) rfl hk0 (x7 hS hk0 18 (r := p0 + 11) (Nat.le_of_ble_eq_true rfl) (Nat.le_of_ble_eq_true rfl) rfl) ?_
  refine wg_iload_n dX7_givenMuchBy_4 rfl ?_
  refine wg_callS (I' := mX7_entry) (np := 2) (d' := d) (as := [vR (p0 + 11), vI a1]) (st := []) dX7_givenMuchBy_5 lk_X7_94 ci_X7_entry rfl rfl (Nat.le_of_ble_eq_true rfl) (Nat.le_refl _) ⟨Nat.le_refl _, Nat.le_refl _⟩ h (fun v M1 h => ?_)
  obtain ⟨r2, rfl, hS, h⟩ := h
  exact wp_iret rfl dX7_givenMuchBy_8 ⟨Nat.le_refl _, Nat.le_refl _⟩ h
