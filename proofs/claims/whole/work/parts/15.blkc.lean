/-! ===== blocks, by program: from a loop's head or an entry to the next heads, calls, ends ===== -/
theorem qbipush_m3 : -128 ≤ ((-3) : Int) ∧ ((-3) : Int) < 128 := ⟨by decide, by decide⟩
theorem qbipush_m2 : -128 ≤ ((-2) : Int) ∧ ((-2) : Int) < 128 := ⟨by decide, by decide⟩
theorem qbipush_32 : -128 ≤ ((32) : Int) ∧ ((32) : Int) < 128 := ⟨by decide, by decide⟩
theorem qbipush_40 : -128 ≤ ((40) : Int) ∧ ((40) : Int) < 128 := ⟨by decide, by decide⟩
theorem qbipush_126 : -128 ≤ ((126) : Int) ∧ ((126) : Int) < 128 := ⟨by decide, by decide⟩
theorem qiconst_5 : R32 (5) := ⟨by decide, by decide⟩
theorem qsipush_999 : -32768 ≤ ((999) : Int) ∧ ((999) : Int) < 32768 := ⟨by decide, by decide⟩
theorem qsipush_9999 : -32768 ≤ ((9999) : Int) ∧ ((9999) : Int) < 32768 := ⟨by decide, by decide⟩
set_option maxRecDepth 100000 in
theorem bX8_write_0 {G : GG} {d : Nat} {M : MM} {Q : Option AV → MM → Prop} (a1 : Int) (hS : ShX M) (h :
(a1 < 32 →
(Q (some (vI (-1))) M)) ∧
(¬ (a1 < 32) →
((a1 ≤ 126 →
(Ok G mX1_append d 0 0 [vR 2, vI a1] M (fun v M3 => ∃ r4 : Int, v = some (vI r4) ∧ ShX M3 ∧ 
((r4 = 0 →
(Q (some (vI (-3))) M3)) ∧
(¬ (r4 = 0) →
(Ok G mX1_size d 0 0 [vR 2] M3 (fun v M6 => ∃ r7 : Int, v = some (vI r7) ∧ ShX M6 ∧ 
(Q (some (vI r7)) M6)))))))) ∧
(¬ (a1 ≤ 126) →
(Q (some (vI (-1))) M))))) :
  Wp G mX8_write (d + 1) 0 0 0 [some (vR 1), some (vI a1)] [] M 0 0 Q := by
  refine wg_iload_n dX8_write_0 rfl ?_
  refine wg_bipush dX8_write_1 qbipush_32 ?_
  refine wg_icmp_lt dX8_write_3 rfl (fun c1 => ?_) (fun c1 => ?_)
  · replace h := h.1 c1
    refine wg_iconst dX8_write_12 qiconst_m1 ?_
    exact wp_iret rfl dX8_write_13 ⟨Nat.le_refl _, Nat.le_refl _⟩ h
  · replace h := h.2 c1
    refine wg_iload_n dX8_write_6 rfl ?_
    refine wg_bipush dX8_write_7 qbipush_126 ?_
    refine wg_icmp_le dX8_write_9 rfl (fun c2 => ?_) (fun c2 => ?_)
    · replace h := h.1 c2
      refine wg_aload_n dX8_write_14 rfl (Nat.succ_ne_zero _) ?_
      refine wg_getRe dX8_write_15 (fl_X8_10 rfl) rfl rfl (x1 hS 0 (r := 2) (Nat.le_of_ble_eq_true rfl) nofun nofun rfl) ?_
      refine wg_iload_n dX8_write_18 rfl ?_
      refine wg_callV (I' := mX1_append) (ci := 1) (np := 1) (d' := d) (q := 2) (as := [vI a1]) (st := []) dX8_write_19 lk_X8_92 ci_X1_append rfl (Nat.le_of_ble_eq_true rfl) rfl rfl (Nat.le_of_ble_eq_true rfl) rfl (Nat.le_refl _) ⟨Nat.le_refl _, Nat.le_refl _⟩ h (fun v M3 h => ?_)
      obtain ⟨r4, rfl, hS, h⟩ := h
      refine wg_if_eq dX8_write_22 rfl (fun c5 => ?_) (fun c5 => ?_)
      · replace h := h.1 c5
        refine wg_bipush dX8_write_35 qbipush_m3 ?_
        exact wp_iret rfl dX8_write_37 ⟨Nat.le_refl _, Nat.le_refl _⟩ h
      · replace h := h.2 c5
        refine wg_aload_n dX8_write_25 rfl (Nat.succ_ne_zero _) ?_
        refine wg_getRe dX8_write_26 (fl_X8_10 rfl) rfl rfl (x1 hS 0 (r := 2) (Nat.le_of_ble_eq_true rfl) nofun nofun rfl) ?_
        refine wg_callV (I' := mX1_size) (ci := 1) (np := 0) (d' := d) (q := 2) (as := []) (st := []) dX8_write_29 lk_X8_103 ci_X1_size rfl (Nat.le_of_ble_eq_true rfl) rfl rfl (Nat.le_of_ble_eq_true rfl) rfl (Nat.le_refl _) ⟨Nat.le_refl _, Nat.le_refl _⟩ h (fun v M6 h => ?_)
        obtain ⟨r7, rfl, hS, h⟩ := h
        refine wg_goto dX8_write_32 rfl ?_
        exact wp_iret rfl dX8_write_37 ⟨Nat.le_refl _, Nat.le_refl _⟩ h
    · replace h := h.2 c2
      refine wg_iconst dX8_write_12 qiconst_m1 ?_
      exact wp_iret rfl dX8_write_13 ⟨Nat.le_refl _, Nat.le_refl _⟩ h
set_option maxRecDepth 100000 in
theorem bX8_wipe_0 {G : GG} {d : Nat} {M : MM} {Q : Option AV → MM → Prop} (hS : ShX M) (h :
Ok G mX1_size d 0 0 [vR 2] M (fun v M1 => ∃ r2 : Int, v = some (vI r2) ∧ ShX M1 ∧ 
(Ok G mX1_clear d 0 0 [vR 2] M1 (fun v M3 => v = none ∧ ShX M3 ∧ 
(Q (some (vI r2)) M3))))) :
  Wp G mX8_wipe (d + 1) 0 0 0 [some (vR 1), none] [] M 0 0 Q := by
  refine wg_aload_n dX8_wipe_0 rfl (Nat.succ_ne_zero _) ?_
  refine wg_getRe dX8_wipe_1 (fl_X8_10 rfl) rfl rfl (x1 hS 0 (r := 2) (Nat.le_of_ble_eq_true rfl) nofun nofun rfl) ?_
  refine wg_callV (I' := mX1_size) (ci := 1) (np := 0) (d' := d) (q := 2) (as := []) (st := []) dX8_wipe_4 lk_X8_103 ci_X1_size rfl (Nat.le_of_ble_eq_true rfl) rfl rfl (Nat.le_of_ble_eq_true rfl) rfl (Nat.le_refl _) ⟨Nat.le_refl _, Nat.le_refl _⟩ h (fun v M1 h => ?_)
  obtain ⟨r2, rfl, hS, h⟩ := h
  refine wg_istore_n (L' := [some (vR 1), some (vI r2)]) dX8_wipe_7 (Nat.le_of_ble_eq_true rfl) rfl ?_
  refine wg_aload_n dX8_wipe_8 rfl (Nat.succ_ne_zero _) ?_
  refine wg_getRe dX8_wipe_9 (fl_X8_10 rfl) rfl rfl (x1 hS 0 (r := 2) (Nat.le_of_ble_eq_true rfl) nofun nofun rfl) ?_
  refine wg_callV (I' := mX1_clear) (ci := 1) (np := 0) (d' := d) (q := 2) (as := []) (st := []) dX8_wipe_12 lk_X8_100 ci_X1_clear rfl (Nat.le_of_ble_eq_true rfl) rfl rfl (Nat.le_of_ble_eq_true rfl) rfl (Nat.le_refl _) ⟨Nat.le_refl _, Nat.le_refl _⟩ h (fun v M3 h => ?_)
  obtain ⟨rfl, hS, h⟩ := h
  refine wg_iload_n dX8_wipe_15 rfl ?_
  exact wp_iret rfl dX8_wipe_16 ⟨Nat.le_refl _, Nat.le_refl _⟩ h
set_option maxRecDepth 100000 in
theorem bX8_fault_0 {G : GG} {d : Nat} {M : MM} {Q : Option AV → MM → Prop} (hS : ShX M) (h :
Ok G mX4_readInto d 0 0 [vR 4, vR (gR M 1 3)] M (fun v M2 => ∃ r3 : Int, v = some (vI r3) ∧ ShX M2 ∧ 
(Q (some (vI r3)) M2))) :
  Wp G mX8_fault (d + 1) 0 0 0 [some (vR 1)] [] M 0 0 Q := by
  refine wg_aload_n dX8_fault_0 rfl (Nat.succ_ne_zero _) ?_
  refine wg_getRe dX8_fault_1 (fl_X8_21 rfl) rfl rfl (x1 hS 1 (r := 4) (Nat.le_of_ble_eq_true rfl) nofun nofun rfl) ?_
  refine wg_aload_n dX8_fault_4 rfl (Nat.succ_ne_zero _) ?_
  have hq1 := (xdraft hS)
  refine wg_getRe dX8_fault_5 (fl_X8_32 rfl) rfl rfl rfl ?_
  refine wg_callV (I' := mX4_readInto) (ci := 4) (np := 1) (d' := d) (q := 4) (as := [vR (gR M 1 3)]) (st := []) dX8_fault_8 lk_X8_106 ci_X4_readInto rfl (Nat.le_of_ble_eq_true rfl) rfl rfl (Nat.le_of_ble_eq_true rfl) rfl (Nat.le_refl _) ⟨Nat.le_refl _, Nat.le_refl _⟩ h (fun v M2 h => ?_)
  obtain ⟨r3, rfl, hS, h⟩ := h
  exact wp_iret rfl dX8_fault_11 ⟨Nat.le_refl _, Nat.le_refl _⟩ h
set_option maxRecDepth 100000 in
theorem bX8_lay_0 {G : GG} {d : Nat} {M : MM} {Q : Option AV → MM → Prop} (hS : ShX M) (h :
Ok G mX8_layTheText d 0 0 [vR 1] M (fun v M1 => ∃ r2 : Int, v = some (vI r2) ∧ ShX M1 ∧ 
(Q (some (vI (if r2 = 0 then ((-2) : Int) else gI M1 (gR M1 1 2) 0))) M1))) :
  Wp G mX8_lay (d + 1) 0 0 0 [some (vR 1)] [] M 0 0 Q := by
  refine wg_aload_n dX8_lay_0 rfl (Nat.succ_ne_zero _) ?_
  refine wg_callV (I' := mX8_layTheText) (ci := 8) (np := 0) (d' := d) (q := 1) (as := []) (st := []) dX8_lay_1 lk_X8_96 ci_X8_layTheText rfl (Nat.le_of_ble_eq_true rfl) rfl rfl (Nat.le_of_ble_eq_true rfl) rfl (Nat.le_refl _) ⟨Nat.le_refl _, Nat.le_refl _⟩ h (fun v M1 h => ?_)
  obtain ⟨r2, rfl, hS, h⟩ := h
  have hJ5 : Wp G mX8_lay (d + 1) 0 0 19 [some (vR 1)] [vI (if r2 = 0 then ((-2) : Int) else gI M1 (gR M1 1 2) 0)] M1 0 0 Q := by
    exact wp_iret rfl dX8_lay_19 ⟨Nat.le_refl _, Nat.le_refl _⟩ h
  refine wg_if_eq dX8_lay_4 rfl (fun c4 => ?_) (fun c4 => ?_)
  · rw [show (if r2 = 0 then ((-2) : Int) else gI M1 (gR M1 1 2) 0) = (-2) from if_pos c4] at hJ5
    refine wg_bipush dX8_lay_17 qbipush_m2 ?_
    exact hJ5
  · rw [show (if r2 = 0 then ((-2) : Int) else gI M1 (gR M1 1 2) 0) = gI M1 (gR M1 1 2) 0 from if_neg c4] at hJ5
    refine wg_aload_n dX8_lay_7 rfl (Nat.succ_ne_zero _) ?_
    have hq3 := (xlaid hS)
    refine wg_getRe dX8_lay_8 (fl_X8_28 rfl) rfl rfl rfl ?_
    refine wg_getI dX8_lay_11 (fl_X8_110 rfl) rfl hq3 ?_
    refine wg_goto dX8_lay_14 rfl ?_
    exact hJ5
set_option maxRecDepth 100000 in
theorem bX8_layTheText_0 {G : GG} {d : Nat} {M : MM} {Q : Option AV → MM → Prop} (hS : ShX M) (h :
Ok G mX4_readInto d 0 0 [vR 4, vR (gR M 1 3)] M (fun v M2 => ∃ r3 : Int, v = some (vI r3) ∧ ShX M2 ∧ 
((r3 ≠ (-4) →
(Q (some (vI 0)) M2)) ∧
(r3 = (-4) →
(((gI M2 (gR M2 1 3) 0) < 1 →
(Q (some (vI 0)) M2)) ∧
(¬ ((gI M2 (gR M2 1 3) 0) < 1) →
((1 ≤ (gI M2 (gR M2 1 3) 3) →
(∀ M13 : MM, M13 = stR M2 1 2 (gR M2 1 3) → ShX M13 ∧
(∀ M14 : MM, M14 = stR M13 1 3 (gR M2 1 2) → ShX M14 ∧
(Ok G mX6_fillFrom d 0 0 [vR 30, vR (gR M14 1 2)] M14 (fun v M16 => v = none ∧ ShX M16 ∧ 
(Ok G mX5_clear d 0 0 [vR 35] M16 (fun v M17 => v = none ∧ ShX M17 ∧ 
(Ok G mX2_clear d 0 0 [vR 43] M17 (fun v M18 => v = none ∧ ShX M18 ∧ 
(Ok G mX2_clear d 0 0 [vR 77] M18 (fun v M19 => v = none ∧ ShX M19 ∧ 
(Q (some (vI 1)) M19)))))))))))) ∧
(¬ (1 ≤ (gI M2 (gR M2 1 3) 3)) →
(Q (some (vI 0)) M2))))))))) :
  Wp G mX8_layTheText (d + 1) 0 0 0 [some (vR 1), none] [] M 0 0 Q := by
  refine wg_aload_n dX8_layTheText_0 rfl (Nat.succ_ne_zero _) ?_
  refine wg_getRe dX8_layTheText_1 (fl_X8_21 rfl) rfl rfl (x1 hS 1 (r := 4) (Nat.le_of_ble_eq_true rfl) nofun nofun rfl) ?_
  refine wg_aload_n dX8_layTheText_4 rfl (Nat.succ_ne_zero _) ?_
  have hq1 := (xdraft hS)
  refine wg_getRe dX8_layTheText_5 (fl_X8_32 rfl) rfl rfl rfl ?_
  refine wg_callV (I' := mX4_readInto) (ci := 4) (np := 1) (d' := d) (q := 4) (as := [vR (gR M 1 3)]) (st := []) dX8_layTheText_8 lk_X8_106 ci_X4_readInto rfl (Nat.le_of_ble_eq_true rfl) rfl rfl (Nat.le_of_ble_eq_true rfl) rfl (Nat.le_refl _) ⟨Nat.le_refl _, Nat.le_refl _⟩ h (fun v M2 h => ?_)
  obtain ⟨r3, rfl, hS, h⟩ := h
  refine wg_bipush dX8_layTheText_11 qbipush_m4 ?_
  refine wg_icmp_ne dX8_layTheText_13 rfl (fun c5 => ?_) (fun c5 => ?_)
  · replace h := h.1 c5
    refine wg_iconst dX8_layTheText_38 qiconst_0 ?_
    exact wp_zret rfl dX8_layTheText_39 ⟨Nat.le_refl _, Nat.le_refl _⟩ (Or.inl rfl) h
  · replace h := h.2 c5
    refine wg_aload_n dX8_layTheText_16 rfl (Nat.succ_ne_zero _) ?_
    have hq6 := (xdraft hS)
    refine wg_getRe dX8_layTheText_17 (fl_X8_32 rfl) rfl rfl rfl ?_
    refine wg_getI dX8_layTheText_20 (fl_X8_110 rfl) rfl hq6 ?_
    refine wg_iconst dX8_layTheText_23 qiconst_1 ?_
    refine wg_icmp_lt dX8_layTheText_24 rfl (fun c8 => ?_) (fun c8 => ?_)
    · replace h := h.1 c8
      refine wg_iconst dX8_layTheText_38 qiconst_0 ?_
      exact wp_zret rfl dX8_layTheText_39 ⟨Nat.le_refl _, Nat.le_refl _⟩ (Or.inl rfl) h
    · replace h := h.2 c8
      refine wg_aload_n dX8_layTheText_27 rfl (Nat.succ_ne_zero _) ?_
      have hq9 := (xdraft hS)
      refine wg_getRe dX8_layTheText_28 (fl_X8_32 rfl) rfl rfl rfl ?_
      refine wg_getI dX8_layTheText_31 (fl_X8_114 rfl) rfl hq9 ?_
      refine wg_iconst dX8_layTheText_34 qiconst_1 ?_
      refine wg_icmp_ge dX8_layTheText_35 rfl (fun c10 => ?_) (fun c10 => ?_)
      · replace h := h.1 c10
        refine wg_aload_n dX8_layTheText_40 rfl (Nat.succ_ne_zero _) ?_
        have hq11 := (xlaid hS)
        refine wg_getRe dX8_layTheText_41 (fl_X8_28 rfl) rfl rfl rfl ?_
        refine wg_astore_n (L' := [some (vR 1), some (vR (gR M2 1 2))]) dX8_layTheText_44 (Nat.le_of_ble_eq_true rfl) rfl (kn7 hq11) ?_
        refine wg_aload_n dX8_layTheText_45 rfl (Nat.succ_ne_zero _) ?_
        refine wg_aload_n dX8_layTheText_46 rfl (Nat.succ_ne_zero _) ?_
        have hq12 := (xdraft hS)
        refine wg_getRe dX8_layTheText_47 (fl_X8_32 rfl) rfl rfl rfl ?_
        refine wg_putR dX8_layTheText_50 (fl_X8_28 rfl) rfl rfl (fun v => rfl) (fun ad => by unfold cr; split <;> rfl) rfl rfl (kl7 hq12) ?_
        generalize hM : stR M2 1 2 (gR M2 1 3) = M13
        obtain ⟨hS, h⟩ := h _ hM.symm
        clear hM
        refine wg_aload_n dX8_layTheText_53 rfl (Nat.succ_ne_zero _) ?_
        refine wg_aload_n dX8_layTheText_54 rfl (kn7 hq11) ?_
        refine wg_putR dX8_layTheText_55 (fl_X8_32 rfl) rfl rfl (fun v => rfl) (fun ad => by unfold cr; split <;> rfl) rfl rfl (kl7 hq11) ?_
        generalize hM : stR M13 1 3 (gR M2 1 2) = M14
        obtain ⟨hS, h⟩ := h _ hM.symm
        clear hM
        refine wg_aload_n dX8_layTheText_58 rfl (Nat.succ_ne_zero _) ?_
        refine wg_getRe dX8_layTheText_59 (fl_X8_38 rfl) rfl rfl (x1 hS 4 (r := 30) (Nat.le_of_ble_eq_true rfl) nofun nofun rfl) ?_
        refine wg_aload_n dX8_layTheText_62 rfl (Nat.succ_ne_zero _) ?_
        have hq15 := (xlaid hS)
        refine wg_getRe dX8_layTheText_63 (fl_X8_28 rfl) rfl rfl rfl ?_
        refine wg_callV (I' := mX6_fillFrom) (ci := 6) (np := 1) (d' := d) (q := 30) (as := [vR (gR M14 1 2)]) (st := []) dX8_layTheText_66 lk_X8_117 ci_X6_fillFrom rfl (Nat.le_of_ble_eq_true rfl) rfl rfl (Nat.le_of_ble_eq_true rfl) rfl (Nat.le_refl _) ⟨Nat.le_refl _, Nat.le_refl _⟩ h (fun v M16 h => ?_)
        obtain ⟨rfl, hS, h⟩ := h
        refine wg_aload_n dX8_layTheText_69 rfl (Nat.succ_ne_zero _) ?_
        refine wg_getRe dX8_layTheText_70 (fl_X8_45 rfl) rfl rfl (x1 hS 5 (r := 35) (Nat.le_of_ble_eq_true rfl) nofun nofun rfl) ?_
        refine wg_callV (I' := mX5_clear) (ci := 5) (np := 0) (d' := d) (q := 35) (as := []) (st := []) dX8_layTheText_73 lk_X8_121 ci_X5_clear rfl (Nat.le_of_ble_eq_true rfl) rfl rfl (Nat.le_of_ble_eq_true rfl) rfl (Nat.le_refl _) ⟨Nat.le_refl _, Nat.le_refl _⟩ h (fun v M17 h => ?_)
        obtain ⟨rfl, hS, h⟩ := h
        refine wg_aload_n dX8_layTheText_76 rfl (Nat.succ_ne_zero _) ?_
        refine wg_getRe dX8_layTheText_77 (fl_X8_57 rfl) rfl rfl (x1 hS 7 (r := 43) (Nat.le_of_ble_eq_true rfl) nofun nofun rfl) ?_
        refine wg_callV (I' := mX2_clear) (ci := 2) (np := 0) (d' := d) (q := 43) (as := []) (st := []) dX8_layTheText_80 lk_X8_122 ci_X2_clear rfl (Nat.le_of_ble_eq_true rfl) rfl rfl (Nat.le_of_ble_eq_true rfl) rfl (Nat.le_refl _) ⟨Nat.le_refl _, Nat.le_refl _⟩ h (fun v M18 h => ?_)
        obtain ⟨rfl, hS, h⟩ := h
        refine wg_aload_n dX8_layTheText_83 rfl (Nat.succ_ne_zero _) ?_
        refine wg_getRe dX8_layTheText_84 (fl_X8_61 rfl) rfl rfl (x1 hS 8 (r := 77) (Nat.le_of_ble_eq_true rfl) nofun nofun rfl) ?_
        refine wg_callV (I' := mX2_clear) (ci := 2) (np := 0) (d' := d) (q := 77) (as := []) (st := []) dX8_layTheText_87 lk_X8_122 ci_X2_clear rfl (Nat.le_of_ble_eq_true rfl) rfl rfl (Nat.le_of_ble_eq_true rfl) rfl (Nat.le_refl _) ⟨Nat.le_refl _, Nat.le_refl _⟩ h (fun v M19 h => ?_)
        obtain ⟨rfl, hS, h⟩ := h
        refine wg_iconst dX8_layTheText_90 qiconst_1 ?_
        exact wp_zret rfl dX8_layTheText_91 ⟨Nat.le_refl _, Nat.le_refl _⟩ (Or.inr rfl) h
      · replace h := h.2 c10
        refine wg_iconst dX8_layTheText_38 qiconst_0 ?_
        exact wp_zret rfl dX8_layTheText_39 ⟨Nat.le_refl _, Nat.le_refl _⟩ (Or.inl rfl) h
set_option maxRecDepth 100000 in
theorem bX8_thing_0 {G : GG} {d : Nat} {M : MM} {Q : Option AV → MM → Prop} (a1 : Int) (a2 : Int) (hS : ShX M) (h :
Ok G mX8_isThing d 0 0 [vR 1, vI a1] M (fun v M1 => ∃ r2 : Int, v = some (vI r2) ∧ ShX M1 ∧ 
((r2 ≠ 0 →
((a2 = 0 →
(Ok G mX7_strengthOfThing d 0 0 [vR (gR M1 1 2), vI a1] M1 (fun v M5 => ∃ r6 : Int, v = some (vI r6) ∧ ShX M5 ∧ 
(Q (some (vI r6)) M5)))) ∧
(a2 = 1 →
(Ok G mX7_kindOfThing d 0 0 [vR (gR M1 1 2), vI a1] M1 (fun v M8 => ∃ r9 : Int, v = some (vI r9) ∧ ShX M8 ∧ 
(Q (some (vI r9)) M8)))) ∧
(a2 = 2 →
(Ok G mX8_isThere d 0 0 [vR 1, vI a1] M1 (fun v M10 => ∃ r11 : Int, v = some (vI r11) ∧ ShX M10 ∧ 
((r11 = 0 →
(Q (some (vI 0)) M10)) ∧
(¬ (r11 = 0) →
(Q (some (vI 1)) M10)))))) ∧
(a2 = 3 →
(Ok G mX5_beastWith d 0 0 [vR 35, vI a1] M1 (fun v M13 => ∃ r14 : Int, v = some (vI r14) ∧ ShX M13 ∧ 
(Q (some (vI r14)) M13)))) ∧
((a2 < 0 ∨ 3 < a2) →
(Q (some (vI (-1))) M1)))) ∧
(r2 = 0 →
(Q (some (vI (-1))) M1))))) :
  Wp G mX8_thing (d + 1) 0 0 0 [some (vR 1), some (vI a1), some (vI a2)] [] M 0 0 Q := by
  refine wg_aload_n dX8_thing_0 rfl (Nat.succ_ne_zero _) ?_
  refine wg_iload_n dX8_thing_1 rfl ?_
  refine wg_callV (I' := mX8_isThing) (ci := 8) (np := 1) (d' := d) (q := 1) (as := [vI a1]) (st := []) dX8_thing_2 lk_X8_123 ci_X8_isThing rfl (Nat.le_of_ble_eq_true rfl) rfl rfl (Nat.le_of_ble_eq_true rfl) rfl (Nat.le_refl _) ⟨Nat.le_refl _, Nat.le_refl _⟩ h (fun v M1 h => ?_)
  obtain ⟨r2, rfl, hS, h⟩ := h
  refine wg_if_ne dX8_thing_5 rfl (fun c3 => ?_) (fun c3 => ?_)
  · replace h := h.1 c3
    refine wg_iload_n dX8_thing_10 rfl ?_
    by_cases c0 : a2 = 0
    · replace h := h.1 c0
      refine wg_tableIn dX8_thing_11 (by omega) (by omega) (off := 29) (by rw [c0]; decide) rfl ?_
      refine wg_aload_n dX8_thing_40 rfl (Nat.succ_ne_zero _) ?_
      have hq4 := (xlaid hS)
      refine wg_getRe dX8_thing_41 (fl_X8_28 rfl) rfl rfl rfl ?_
      refine wg_iload_n dX8_thing_44 rfl ?_
      refine wg_callV (I' := mX7_strengthOfThing) (ci := 7) (np := 1) (d' := d) (q := gR M1 1 2) (as := [vI a1]) (st := []) dX8_thing_45 lk_X8_126 ci_X7_strengthOfThing rfl (Nat.le_of_ble_eq_true rfl) rfl rfl (Nat.le_of_ble_eq_true rfl) hq4 (Nat.le_refl _) ⟨Nat.le_refl _, Nat.le_refl _⟩ h (fun v M5 h => ?_)
      obtain ⟨r6, rfl, hS, h⟩ := h
      exact wp_iret rfl dX8_thing_48 ⟨Nat.le_refl _, Nat.le_refl _⟩ h
    by_cases c1 : a2 = 1
    · replace h := h.2.1 c1
      refine wg_tableIn dX8_thing_11 (by omega) (by omega) (off := 38) (by rw [c1]; decide) rfl ?_
      refine wg_aload_n dX8_thing_49 rfl (Nat.succ_ne_zero _) ?_
      have hq7 := (xlaid hS)
      refine wg_getRe dX8_thing_50 (fl_X8_28 rfl) rfl rfl rfl ?_
      refine wg_iload_n dX8_thing_53 rfl ?_
      refine wg_callV (I' := mX7_kindOfThing) (ci := 7) (np := 1) (d' := d) (q := gR M1 1 2) (as := [vI a1]) (st := []) dX8_thing_54 lk_X8_130 ci_X7_kindOfThing rfl (Nat.le_of_ble_eq_true rfl) rfl rfl (Nat.le_of_ble_eq_true rfl) hq7 (Nat.le_refl _) ⟨Nat.le_refl _, Nat.le_refl _⟩ h (fun v M8 h => ?_)
      obtain ⟨r9, rfl, hS, h⟩ := h
      exact wp_iret rfl dX8_thing_57 ⟨Nat.le_refl _, Nat.le_refl _⟩ h
    by_cases c2 : a2 = 2
    · replace h := h.2.2.1 c2
      refine wg_tableIn dX8_thing_11 (by omega) (by omega) (off := 47) (by rw [c2]; decide) rfl ?_
      refine wg_aload_n dX8_thing_58 rfl (Nat.succ_ne_zero _) ?_
      refine wg_iload_n dX8_thing_59 rfl ?_
      refine wg_callV (I' := mX8_isThere) (ci := 8) (np := 1) (d' := d) (q := 1) (as := [vI a1]) (st := []) dX8_thing_60 lk_X8_133 ci_X8_isThere rfl (Nat.le_of_ble_eq_true rfl) rfl rfl (Nat.le_of_ble_eq_true rfl) rfl (Nat.le_refl _) ⟨Nat.le_refl _, Nat.le_refl _⟩ h (fun v M10 h => ?_)
      obtain ⟨r11, rfl, hS, h⟩ := h
      refine wg_if_eq dX8_thing_63 rfl (fun c12 => ?_) (fun c12 => ?_)
      · replace h := h.1 c12
        refine wg_iconst dX8_thing_70 qiconst_0 ?_
        exact wp_iret rfl dX8_thing_71 ⟨Nat.le_refl _, Nat.le_refl _⟩ h
      · replace h := h.2 c12
        refine wg_iconst dX8_thing_66 qiconst_1 ?_
        refine wg_goto dX8_thing_67 rfl ?_
        exact wp_iret rfl dX8_thing_71 ⟨Nat.le_refl _, Nat.le_refl _⟩ h
    by_cases c3 : a2 = 3
    · replace h := h.2.2.2.1 c3
      refine wg_tableIn dX8_thing_11 (by omega) (by omega) (off := 61) (by rw [c3]; decide) rfl ?_
      refine wg_aload_n dX8_thing_72 rfl (Nat.succ_ne_zero _) ?_
      refine wg_getRe dX8_thing_73 (fl_X8_45 rfl) rfl rfl (x1 hS 5 (r := 35) (Nat.le_of_ble_eq_true rfl) nofun nofun rfl) ?_
      refine wg_iload_n dX8_thing_76 rfl ?_
      refine wg_callV (I' := mX5_beastWith) (ci := 5) (np := 1) (d' := d) (q := 35) (as := [vI a1]) (st := []) dX8_thing_77 lk_X8_136 ci_X5_beastWith rfl (Nat.le_of_ble_eq_true rfl) rfl rfl (Nat.le_of_ble_eq_true rfl) rfl (Nat.le_refl _) ⟨Nat.le_refl _, Nat.le_refl _⟩ h (fun v M13 h => ?_)
      obtain ⟨r14, rfl, hS, h⟩ := h
      exact wp_iret rfl dX8_thing_80 ⟨Nat.le_refl _, Nat.le_refl _⟩ h
    have hc : a2 < 0 ∨ 3 < a2 := by omega
    replace h := h.2.2.2.2 hc
    refine wg_tableOut dX8_thing_11 hc rfl ?_
    refine wg_iconst dX8_thing_81 qiconst_m1 ?_
    exact wp_iret rfl dX8_thing_82 ⟨Nat.le_refl _, Nat.le_refl _⟩ h
  · replace h := h.2 c3
    refine wg_iconst dX8_thing_8 qiconst_m1 ?_
    exact wp_iret rfl dX8_thing_9 ⟨Nat.le_refl _, Nat.le_refl _⟩ h
set_option maxRecDepth 100000 in
theorem bX8_person_0 {G : GG} {d : Nat} {M : MM} {Q : Option AV → MM → Prop} (a1 : Int) (a2 : Int) (hS : ShX M) (h :
(a1 < 0 →
(Q (some (vI (-1))) M)) ∧
(¬ (a1 < 0) →
((a1 < (gI M (gR M 1 2) 2) →
((a2 = 0 →
(Ok G mX7_thingOfPerson d 0 0 [vR (gR M 1 2), vI a1] M (fun v M6 => ∃ r7 : Int, v = some (vI r7) ∧ ShX M6 ∧ 
(Q (some (vI r7)) M6)))) ∧
(a2 = 1 →
(Ok G mX7_weightOfPerson d 0 0 [vR (gR M 1 2), vI a1] M (fun v M9 => ∃ r10 : Int, v = some (vI r10) ∧ ShX M9 ∧ 
(Q (some (vI r10)) M9)))) ∧
(a2 = 2 →
(Ok G mX5_found d 0 0 [vR 35, vI (gI M (gR M 1 2) 7)] M (fun v M12 => ∃ r13 : Int, v = some (vI r13) ∧ ShX M12 ∧ 
(Ok G mX6_missersOf d 0 0 [vR 30, vI r13] M12 (fun v M14 => ∃ r15 : Int, v = some (vI r15) ∧ ShX M14 ∧ 
(Q (some (vI (iandv (ishrv r15 a1) 1))) M14)))))) ∧
((a2 < 0 ∨ 2 < a2) →
(Q (some (vI (-1))) M)))) ∧
(¬ (a1 < (gI M (gR M 1 2) 2)) →
(Q (some (vI (-1))) M))))) :
  Wp G mX8_person (d + 1) 0 0 0 [some (vR 1), some (vI a1), some (vI a2)] [] M 0 0 Q := by
  refine wg_iload_n dX8_person_0 rfl ?_
  refine wg_if_lt dX8_person_1 rfl (fun c2 => ?_) (fun c2 => ?_)
  · replace h := h.1 c2
    refine wg_iconst dX8_person_15 qiconst_m1 ?_
    exact wp_iret rfl dX8_person_16 ⟨Nat.le_refl _, Nat.le_refl _⟩ h
  · replace h := h.2 c2
    refine wg_iload_n dX8_person_4 rfl ?_
    refine wg_aload_n dX8_person_5 rfl (Nat.succ_ne_zero _) ?_
    have hq3 := (xlaid hS)
    refine wg_getRe dX8_person_6 (fl_X8_28 rfl) rfl rfl rfl ?_
    refine wg_getI dX8_person_9 (fl_X8_139 rfl) rfl hq3 ?_
    refine wg_icmp_lt dX8_person_12 rfl (fun c4 => ?_) (fun c4 => ?_)
    · replace h := h.1 c4
      refine wg_iload_n dX8_person_17 rfl ?_
      by_cases c0 : a2 = 0
      · replace h := h.1 c0
        refine wg_tableIn dX8_person_18 (by omega) (by omega) (off := 26) (by rw [c0]; decide) rfl ?_
        refine wg_aload_n dX8_person_44 rfl (Nat.succ_ne_zero _) ?_
        have hq5 := (xlaid hS)
        refine wg_getRe dX8_person_45 (fl_X8_28 rfl) rfl rfl rfl ?_
        refine wg_iload_n dX8_person_48 rfl ?_
        refine wg_callV (I' := mX7_thingOfPerson) (ci := 7) (np := 1) (d' := d) (q := gR M 1 2) (as := [vI a1]) (st := []) dX8_person_49 lk_X8_142 ci_X7_thingOfPerson rfl (Nat.le_of_ble_eq_true rfl) rfl rfl (Nat.le_of_ble_eq_true rfl) hq5 (Nat.le_refl _) ⟨Nat.le_refl _, Nat.le_refl _⟩ h (fun v M6 h => ?_)
        obtain ⟨r7, rfl, hS, h⟩ := h
        exact wp_iret rfl dX8_person_52 ⟨Nat.le_refl _, Nat.le_refl _⟩ h
      by_cases c1 : a2 = 1
      · replace h := h.2.1 c1
        refine wg_tableIn dX8_person_18 (by omega) (by omega) (off := 35) (by rw [c1]; decide) rfl ?_
        refine wg_aload_n dX8_person_53 rfl (Nat.succ_ne_zero _) ?_
        have hq8 := (xlaid hS)
        refine wg_getRe dX8_person_54 (fl_X8_28 rfl) rfl rfl rfl ?_
        refine wg_iload_n dX8_person_57 rfl ?_
        refine wg_callV (I' := mX7_weightOfPerson) (ci := 7) (np := 1) (d' := d) (q := gR M 1 2) (as := [vI a1]) (st := []) dX8_person_58 lk_X8_145 ci_X7_weightOfPerson rfl (Nat.le_of_ble_eq_true rfl) rfl rfl (Nat.le_of_ble_eq_true rfl) hq8 (Nat.le_refl _) ⟨Nat.le_refl _, Nat.le_refl _⟩ h (fun v M9 h => ?_)
        obtain ⟨r10, rfl, hS, h⟩ := h
        exact wp_iret rfl dX8_person_61 ⟨Nat.le_refl _, Nat.le_refl _⟩ h
      by_cases c2 : a2 = 2
      · replace h := h.2.2.1 c2
        refine wg_tableIn dX8_person_18 (by omega) (by omega) (off := 44) (by rw [c2]; decide) rfl ?_
        refine wg_aload_n dX8_person_62 rfl (Nat.succ_ne_zero _) ?_
        refine wg_getRe dX8_person_63 (fl_X8_38 rfl) rfl rfl (x1 hS 4 (r := 30) (Nat.le_of_ble_eq_true rfl) nofun nofun rfl) ?_
        refine wg_aload_n dX8_person_66 rfl (Nat.succ_ne_zero _) ?_
        refine wg_getRe dX8_person_67 (fl_X8_45 rfl) rfl rfl (x1 hS 5 (r := 35) (Nat.le_of_ble_eq_true rfl) nofun nofun rfl) ?_
        refine wg_aload_n dX8_person_70 rfl (Nat.succ_ne_zero _) ?_
        have hq11 := (xlaid hS)
        refine wg_getRe dX8_person_71 (fl_X8_28 rfl) rfl rfl rfl ?_
        refine wg_getI dX8_person_74 (fl_X8_148 rfl) rfl hq11 ?_
        refine wg_callV (I' := mX5_found) (ci := 5) (np := 1) (d' := d) (q := 35) (as := [vI (gI M (gR M 1 2) 7)]) (st := [vR 30]) dX8_person_77 lk_X8_151 ci_X5_found rfl (Nat.le_of_ble_eq_true rfl) rfl rfl (Nat.le_of_ble_eq_true rfl) rfl (Nat.le_refl _) ⟨Nat.le_refl _, Nat.le_refl _⟩ h (fun v M12 h => ?_)
        obtain ⟨r13, rfl, hS, h⟩ := h
        refine wg_callV (I' := mX6_missersOf) (ci := 6) (np := 1) (d' := d) (q := 30) (as := [vI r13]) (st := []) dX8_person_80 lk_X8_154 ci_X6_missersOf rfl (Nat.le_of_ble_eq_true rfl) rfl rfl (Nat.le_of_ble_eq_true rfl) rfl (Nat.le_refl _) ⟨Nat.le_refl _, Nat.le_refl _⟩ h (fun v M14 h => ?_)
        obtain ⟨r15, rfl, hS, h⟩ := h
        refine wg_iload_n dX8_person_83 rfl ?_
        refine wg_ishr dX8_person_84 ?_
        refine wg_iconst dX8_person_85 qiconst_1 ?_
        refine wg_iand dX8_person_86 ?_
        exact wp_iret rfl dX8_person_87 ⟨Nat.le_refl _, Nat.le_refl _⟩ h
      have hc : a2 < 0 ∨ 2 < a2 := by omega
      replace h := h.2.2.2 hc
      refine wg_tableOut dX8_person_18 hc rfl ?_
      refine wg_iconst dX8_person_88 qiconst_m1 ?_
      exact wp_iret rfl dX8_person_89 ⟨Nat.le_refl _, Nat.le_refl _⟩ h
    · replace h := h.2 c4
      refine wg_iconst dX8_person_15 qiconst_m1 ?_
      exact wp_iret rfl dX8_person_16 ⟨Nat.le_refl _, Nat.le_refl _⟩ h
set_option maxRecDepth 100000 in
theorem bX8_beast_0 {G : GG} {d : Nat} {M : MM} {Q : Option AV → MM → Prop} (a1 : Int) (a2 : Int) (hS : ShX M) (h :
Ok G mX8_isBeast d 0 0 [vR 1, vI a1] M (fun v M1 => ∃ r2 : Int, v = some (vI r2) ∧ ShX M1 ∧ 
((r2 ≠ 0 →
((a2 = 0 →
(Ok G mX7_pullOfBeast d 0 0 [vR (gR M1 1 2), vI a1] M1 (fun v M5 => ∃ r6 : Int, v = some (vI r6) ∧ ShX M5 ∧ 
(Q (some (vI r6)) M5)))) ∧
(a2 = 1 →
(Ok G mX5_ribbonOf d 0 0 [vR 35, vI a1] M1 (fun v M7 => ∃ r8 : Int, v = some (vI r8) ∧ ShX M7 ∧ 
(Q (some (vI r8)) M7)))) ∧
(a2 = 2 →
(Ok G mX5_isBound d 0 0 [vR 35, vI a1] M1 (fun v M9 => ∃ r10 : Int, v = some (vI r10) ∧ ShX M9 ∧ 
((r10 = 0 →
(Q (some (vI (-4))) M9)) ∧
(¬ (r10 = 0) →
(Ok G mX5_ageOf d 0 0 [vR 35, vI a1] M9 (fun v M12 => ∃ r13 : Int, v = some (vI r13) ∧ ShX M12 ∧ 
(Q (some (vI r13)) M12)))))))) ∧
(a2 = 3 →
(Ok G mX5_escapesOf d 0 0 [vR 35, vI a1] M1 (fun v M14 => ∃ r15 : Int, v = some (vI r15) ∧ ShX M14 ∧ 
(Q (some (vI r15)) M14)))) ∧
((a2 < 0 ∨ 3 < a2) →
(Q (some (vI (-1))) M1)))) ∧
(r2 = 0 →
(Q (some (vI (-1))) M1))))) :
  Wp G mX8_beast (d + 1) 0 0 0 [some (vR 1), some (vI a1), some (vI a2)] [] M 0 0 Q := by
  refine wg_aload_n dX8_beast_0 rfl (Nat.succ_ne_zero _) ?_
  refine wg_iload_n dX8_beast_1 rfl ?_
  refine wg_callV (I' := mX8_isBeast) (ci := 8) (np := 1) (d' := d) (q := 1) (as := [vI a1]) (st := []) dX8_beast_2 lk_X8_157 ci_X8_isBeast rfl (Nat.le_of_ble_eq_true rfl) rfl rfl (Nat.le_of_ble_eq_true rfl) rfl (Nat.le_refl _) ⟨Nat.le_refl _, Nat.le_refl _⟩ h (fun v M1 h => ?_)
  obtain ⟨r2, rfl, hS, h⟩ := h
  refine wg_if_ne dX8_beast_5 rfl (fun c3 => ?_) (fun c3 => ?_)
  · replace h := h.1 c3
    refine wg_iload_n dX8_beast_10 rfl ?_
    by_cases c0 : a2 = 0
    · replace h := h.1 c0
      refine wg_tableIn dX8_beast_11 (by omega) (by omega) (off := 29) (by rw [c0]; decide) rfl ?_
      refine wg_aload_n dX8_beast_40 rfl (Nat.succ_ne_zero _) ?_
      have hq4 := (xlaid hS)
      refine wg_getRe dX8_beast_41 (fl_X8_28 rfl) rfl rfl rfl ?_
      refine wg_iload_n dX8_beast_44 rfl ?_
      refine wg_callV (I' := mX7_pullOfBeast) (ci := 7) (np := 1) (d' := d) (q := gR M1 1 2) (as := [vI a1]) (st := []) dX8_beast_45 lk_X8_160 ci_X7_pullOfBeast rfl (Nat.le_of_ble_eq_true rfl) rfl rfl (Nat.le_of_ble_eq_true rfl) hq4 (Nat.le_refl _) ⟨Nat.le_refl _, Nat.le_refl _⟩ h (fun v M5 h => ?_)
      obtain ⟨r6, rfl, hS, h⟩ := h
      exact wp_iret rfl dX8_beast_48 ⟨Nat.le_refl _, Nat.le_refl _⟩ h
    by_cases c1 : a2 = 1
    · replace h := h.2.1 c1
      refine wg_tableIn dX8_beast_11 (by omega) (by omega) (off := 38) (by rw [c1]; decide) rfl ?_
      refine wg_aload_n dX8_beast_49 rfl (Nat.succ_ne_zero _) ?_
      refine wg_getRe dX8_beast_50 (fl_X8_45 rfl) rfl rfl (x1 hS 5 (r := 35) (Nat.le_of_ble_eq_true rfl) nofun nofun rfl) ?_
      refine wg_iload_n dX8_beast_53 rfl ?_
      refine wg_callV (I' := mX5_ribbonOf) (ci := 5) (np := 1) (d' := d) (q := 35) (as := [vI a1]) (st := []) dX8_beast_54 lk_X8_163 ci_X5_ribbonOf rfl (Nat.le_of_ble_eq_true rfl) rfl rfl (Nat.le_of_ble_eq_true rfl) rfl (Nat.le_refl _) ⟨Nat.le_refl _, Nat.le_refl _⟩ h (fun v M7 h => ?_)
      obtain ⟨r8, rfl, hS, h⟩ := h
      exact wp_iret rfl dX8_beast_57 ⟨Nat.le_refl _, Nat.le_refl _⟩ h
    by_cases c2 : a2 = 2
    · replace h := h.2.2.1 c2
      refine wg_tableIn dX8_beast_11 (by omega) (by omega) (off := 47) (by rw [c2]; decide) rfl ?_
      refine wg_aload_n dX8_beast_58 rfl (Nat.succ_ne_zero _) ?_
      refine wg_getRe dX8_beast_59 (fl_X8_45 rfl) rfl rfl (x1 hS 5 (r := 35) (Nat.le_of_ble_eq_true rfl) nofun nofun rfl) ?_
      refine wg_iload_n dX8_beast_62 rfl ?_
      refine wg_callV (I' := mX5_isBound) (ci := 5) (np := 1) (d' := d) (q := 35) (as := [vI a1]) (st := []) dX8_beast_63 lk_X8_166 ci_X5_isBound rfl (Nat.le_of_ble_eq_true rfl) rfl rfl (Nat.le_of_ble_eq_true rfl) rfl (Nat.le_refl _) ⟨Nat.le_refl _, Nat.le_refl _⟩ h (fun v M9 h => ?_)
      obtain ⟨r10, rfl, hS, h⟩ := h
      refine wg_if_eq dX8_beast_66 rfl (fun c11 => ?_) (fun c11 => ?_)
      · replace h := h.1 c11
        refine wg_bipush dX8_beast_80 qbipush_m4 ?_
        exact wp_iret rfl dX8_beast_82 ⟨Nat.le_refl _, Nat.le_refl _⟩ h
      · replace h := h.2 c11
        refine wg_aload_n dX8_beast_69 rfl (Nat.succ_ne_zero _) ?_
        refine wg_getRe dX8_beast_70 (fl_X8_45 rfl) rfl rfl (x1 hS 5 (r := 35) (Nat.le_of_ble_eq_true rfl) nofun nofun rfl) ?_
        refine wg_iload_n dX8_beast_73 rfl ?_
        refine wg_callV (I' := mX5_ageOf) (ci := 5) (np := 1) (d' := d) (q := 35) (as := [vI a1]) (st := []) dX8_beast_74 lk_X8_169 ci_X5_ageOf rfl (Nat.le_of_ble_eq_true rfl) rfl rfl (Nat.le_of_ble_eq_true rfl) rfl (Nat.le_refl _) ⟨Nat.le_refl _, Nat.le_refl _⟩ h (fun v M12 h => ?_)
        obtain ⟨r13, rfl, hS, h⟩ := h
        refine wg_goto dX8_beast_77 rfl ?_
        exact wp_iret rfl dX8_beast_82 ⟨Nat.le_refl _, Nat.le_refl _⟩ h
    by_cases c3 : a2 = 3
    · replace h := h.2.2.2.1 c3
      refine wg_tableIn dX8_beast_11 (by omega) (by omega) (off := 72) (by rw [c3]; decide) rfl ?_
      refine wg_aload_n dX8_beast_83 rfl (Nat.succ_ne_zero _) ?_
      refine wg_getRe dX8_beast_84 (fl_X8_45 rfl) rfl rfl (x1 hS 5 (r := 35) (Nat.le_of_ble_eq_true rfl) nofun nofun rfl) ?_
      refine wg_iload_n dX8_beast_87 rfl ?_
      refine wg_callV (I' := mX5_escapesOf) (ci := 5) (np := 1) (d' := d) (q := 35) (as := [vI a1]) (st := []) dX8_beast_88 lk_X8_172 ci_X5_escapesOf rfl (Nat.le_of_ble_eq_true rfl) rfl rfl (Nat.le_of_ble_eq_true rfl) rfl (Nat.le_refl _) ⟨Nat.le_refl _, Nat.le_refl _⟩ h (fun v M14 h => ?_)
      obtain ⟨r15, rfl, hS, h⟩ := h
      exact wp_iret rfl dX8_beast_91 ⟨Nat.le_refl _, Nat.le_refl _⟩ h
    have hc : a2 < 0 ∨ 3 < a2 := by omega
    replace h := h.2.2.2.2 hc
    refine wg_tableOut dX8_beast_11 hc rfl ?_
    refine wg_iconst dX8_beast_92 qiconst_m1 ?_
    exact wp_iret rfl dX8_beast_93 ⟨Nat.le_refl _, Nat.le_refl _⟩ h
  · replace h := h.2 c3
    refine wg_iconst dX8_beast_8 qiconst_m1 ?_
    exact wp_iret rfl dX8_beast_9 ⟨Nat.le_refl _, Nat.le_refl _⟩ h
set_option maxRecDepth 100000 in
theorem bX8_strength_0 {G : GG} {d : Nat} {M : MM} {Q : Option AV → MM → Prop} (a1 : Int) (hS : ShX M) (h :
Ok G mX6_isSet d 0 0 [vR 30, vI a1] M (fun v M1 => ∃ r2 : Int, v = some (vI r2) ∧ ShX M1 ∧ 
((r2 = 0 →
(Q (some (vI (-1))) M1)) ∧
(¬ (r2 = 0) →
(Ok G mX6_strengthOf d 0 0 [vR 30, vI a1] M1 (fun v M4 => ∃ r5 : Int, v = some (vI r5) ∧ ShX M4 ∧ 
(Q (some (vI r5)) M4))))))) :
  Wp G mX8_strength (d + 1) 0 0 0 [some (vR 1), some (vI a1)] [] M 0 0 Q := by
  refine wg_aload_n dX8_strength_0 rfl (Nat.succ_ne_zero _) ?_
  refine wg_getRe dX8_strength_1 (fl_X8_38 rfl) rfl rfl (x1 hS 4 (r := 30) (Nat.le_of_ble_eq_true rfl) nofun nofun rfl) ?_
  refine wg_iload_n dX8_strength_4 rfl ?_
  refine wg_callV (I' := mX6_isSet) (ci := 6) (np := 1) (d' := d) (q := 30) (as := [vI a1]) (st := []) dX8_strength_5 lk_X8_175 ci_X6_isSet rfl (Nat.le_of_ble_eq_true rfl) rfl rfl (Nat.le_of_ble_eq_true rfl) rfl (Nat.le_refl _) ⟨Nat.le_refl _, Nat.le_refl _⟩ h (fun v M1 h => ?_)
  obtain ⟨r2, rfl, hS, h⟩ := h
  refine wg_if_eq dX8_strength_8 rfl (fun c3 => ?_) (fun c3 => ?_)
  · replace h := h.1 c3
    refine wg_iconst dX8_strength_22 qiconst_m1 ?_
    exact wp_iret rfl dX8_strength_23 ⟨Nat.le_refl _, Nat.le_refl _⟩ h
  · replace h := h.2 c3
    refine wg_aload_n dX8_strength_11 rfl (Nat.succ_ne_zero _) ?_
    refine wg_getRe dX8_strength_12 (fl_X8_38 rfl) rfl rfl (x1 hS 4 (r := 30) (Nat.le_of_ble_eq_true rfl) nofun nofun rfl) ?_
    refine wg_iload_n dX8_strength_15 rfl ?_
    refine wg_callV (I' := mX6_strengthOf) (ci := 6) (np := 1) (d' := d) (q := 30) (as := [vI a1]) (st := []) dX8_strength_16 lk_X8_178 ci_X6_strengthOf rfl (Nat.le_of_ble_eq_true rfl) rfl rfl (Nat.le_of_ble_eq_true rfl) rfl (Nat.le_refl _) ⟨Nat.le_refl _, Nat.le_refl _⟩ h (fun v M4 h => ?_)
    obtain ⟨r5, rfl, hS, h⟩ := h
    refine wg_goto dX8_strength_19 rfl ?_
    exact wp_iret rfl dX8_strength_23 ⟨Nat.le_refl _, Nat.le_refl _⟩ h
set_option maxRecDepth 100000 in
theorem bX8_follows_0 {G : GG} {d : Nat} {M : MM} {Q : Option AV → MM → Prop} (a1 : Int) (hS : ShX M) (h :
Ok G mX6_isSet d 0 0 [vR 30, vI a1] M (fun v M1 => ∃ r2 : Int, v = some (vI r2) ∧ ShX M1 ∧ 
((r2 = 0 →
(Q (some (vI (-1))) M1)) ∧
(¬ (r2 = 0) →
(Ok G mX6_followersOf d 0 0 [vR 30, vI a1] M1 (fun v M4 => ∃ r5 : Int, v = some (vI r5) ∧ ShX M4 ∧ 
(Q (some (vI r5)) M4))))))) :
  Wp G mX8_follows (d + 1) 0 0 0 [some (vR 1), some (vI a1)] [] M 0 0 Q := by
  refine wg_aload_n dX8_follows_0 rfl (Nat.succ_ne_zero _) ?_
  refine wg_getRe dX8_follows_1 (fl_X8_38 rfl) rfl rfl (x1 hS 4 (r := 30) (Nat.le_of_ble_eq_true rfl) nofun nofun rfl) ?_
  refine wg_iload_n dX8_follows_4 rfl ?_
  refine wg_callV (I' := mX6_isSet) (ci := 6) (np := 1) (d' := d) (q := 30) (as := [vI a1]) (st := []) dX8_follows_5 lk_X8_175 ci_X6_isSet rfl (Nat.le_of_ble_eq_true rfl) rfl rfl (Nat.le_of_ble_eq_true rfl) rfl (Nat.le_refl _) ⟨Nat.le_refl _, Nat.le_refl _⟩ h (fun v M1 h => ?_)
  obtain ⟨r2, rfl, hS, h⟩ := h
  refine wg_if_eq dX8_follows_8 rfl (fun c3 => ?_) (fun c3 => ?_)
  · replace h := h.1 c3
    refine wg_iconst dX8_follows_22 qiconst_m1 ?_
    exact wp_iret rfl dX8_follows_23 ⟨Nat.le_refl _, Nat.le_refl _⟩ h
  · replace h := h.2 c3
    refine wg_aload_n dX8_follows_11 rfl (Nat.succ_ne_zero _) ?_
    refine wg_getRe dX8_follows_12 (fl_X8_38 rfl) rfl rfl (x1 hS 4 (r := 30) (Nat.le_of_ble_eq_true rfl) nofun nofun rfl) ?_
    refine wg_iload_n dX8_follows_15 rfl ?_
    refine wg_callV (I' := mX6_followersOf) (ci := 6) (np := 1) (d' := d) (q := 30) (as := [vI a1]) (st := []) dX8_follows_16 lk_X8_181 ci_X6_followersOf rfl (Nat.le_of_ble_eq_true rfl) rfl rfl (Nat.le_of_ble_eq_true rfl) rfl (Nat.le_refl _) ⟨Nat.le_refl _, Nat.le_refl _⟩ h (fun v M4 h => ?_)
    obtain ⟨r5, rfl, hS, h⟩ := h
    refine wg_goto dX8_follows_19 rfl ?_
    exact wp_iret rfl dX8_follows_23 ⟨Nat.le_refl _, Nat.le_refl _⟩ h
set_option maxRecDepth 100000 in
theorem bX8_missed_0 {G : GG} {d : Nat} {M : MM} {Q : Option AV → MM → Prop} (hS : ShX M) (h :
Ok G mX8_missedIn d 0 0 [vR 1, vR 35] M (fun v M1 => ∃ r2 : Int, v = some (vI r2) ∧ ShX M1 ∧ 
(Q (some (vI r2)) M1))) :
  Wp G mX8_missed (d + 1) 0 0 0 [some (vR 1)] [] M 0 0 Q := by
  refine wg_aload_n dX8_missed_0 rfl (Nat.succ_ne_zero _) ?_
  refine wg_aload_n dX8_missed_1 rfl (Nat.succ_ne_zero _) ?_
  refine wg_getRe dX8_missed_2 (fl_X8_45 rfl) rfl rfl (x1 hS 5 (r := 35) (Nat.le_of_ble_eq_true rfl) nofun nofun rfl) ?_
  refine wg_callV (I' := mX8_missedIn) (ci := 8) (np := 1) (d' := d) (q := 1) (as := [vR 35]) (st := []) dX8_missed_5 lk_X8_184 ci_X8_missedIn rfl (Nat.le_of_ble_eq_true rfl) rfl rfl (Nat.le_of_ble_eq_true rfl) rfl (Nat.le_refl _) ⟨Nat.le_refl _, Nat.le_refl _⟩ h (fun v M1 h => ?_)
  obtain ⟨r2, rfl, hS, h⟩ := h
  exact wp_iret rfl dX8_missed_8 ⟨Nat.le_refl _, Nat.le_refl _⟩ h
set_option maxRecDepth 100000 in
theorem bX8_bind_0 {G : GG} {d : Nat} {M : MM} {Q : Option AV → MM → Prop} (a1 : Int) (a2 : Int) (hS : ShX M) (h :
Ok G mX8_isBeast d 0 0 [vR 1, vI a1] M (fun v M1 => ∃ r2 : Int, v = some (vI r2) ∧ ShX M1 ∧ 
((r2 = 0 →
(Q (some (vI (-1))) M1)) ∧
(¬ (r2 = 0) →
(Ok G mX6_isSet d 0 0 [vR 30, vI a2] M1 (fun v M4 => ∃ r5 : Int, v = some (vI r5) ∧ ShX M4 ∧ 
((r5 ≠ 0 →
(Ok G mX5_gone d 0 0 [vR 35] M4 (fun v M7 => ∃ r8 : Int, v = some (vI r8) ∧ ShX M7 ∧ 
(Ok G mX6_thereBesides d 0 0 [vR 30, vI r8] M7 (fun v M9 => ∃ r10 : Int, v = some (vI r10) ∧ ShX M9 ∧ 
(Ok G mX5_isBound d 0 0 [vR 35, vI a1] M9 (fun v M12 => ∃ r13 : Int, v = some (vI r13) ∧ ShX M12 ∧ 
((r13 ≠ 0 →
(Q (some (vI (-2))) M12)) ∧
(r13 = 0 →
(((if (iandv a2 (ixorv r10 (-1))) = 0 then (1 : Int) else 0) = 0 →
(Q (some (vI (-2))) M12)) ∧
(¬ ((if (iandv a2 (ixorv r10 (-1))) = 0 then (1 : Int) else 0) = 0) →
(Ok G mX6_strengthOf d 0 0 [vR 30, vI a2] M12 (fun v M16 => ∃ r17 : Int, v = some (vI r17) ∧ ShX M16 ∧ 
(Ok G mX7_pullOfBeast d 0 0 [vR (gR M16 1 2), vI a1] M16 (fun v M19 => ∃ r20 : Int, v = some (vI r20) ∧ ShX M19 ∧ 
((r20 ≤ r17 →
(Ok G mX2_push d 0 0 [vR 43, vR 35] M19 (fun v M22 => v = none ∧ ShX M22 ∧ 
(Ok G mX5_tie d 0 0 [vR 35, vI a1, vI a2] M22 (fun v M23 => v = none ∧ ShX M23 ∧ 
(Ok G mX6_strengthOf d 0 0 [vR 30, vI a2] M23 (fun v M24 => ∃ r25 : Int, v = some (vI r25) ∧ ShX M24 ∧ 
(Q (some (vI r25)) M24)))))))) ∧
(¬ (r20 ≤ r17) →
(Q (some (vI (-2))) M19)))))))))))))))))) ∧
(r5 = 0 →
(Q (some (vI (-1))) M4))))))))) :
  Wp G mX8_bind (d + 1) 0 0 0 [some (vR 1), some (vI a1), some (vI a2), none] [] M 0 0 Q := by
  refine wg_aload_n dX8_bind_0 rfl (Nat.succ_ne_zero _) ?_
  refine wg_iload_n dX8_bind_1 rfl ?_
  refine wg_callV (I' := mX8_isBeast) (ci := 8) (np := 1) (d' := d) (q := 1) (as := [vI a1]) (st := []) dX8_bind_2 lk_X8_157 ci_X8_isBeast rfl (Nat.le_of_ble_eq_true rfl) rfl rfl (Nat.le_of_ble_eq_true rfl) rfl (Nat.le_refl _) ⟨Nat.le_refl _, Nat.le_refl _⟩ h (fun v M1 h => ?_)
  obtain ⟨r2, rfl, hS, h⟩ := h
  refine wg_if_eq dX8_bind_5 rfl (fun c3 => ?_) (fun c3 => ?_)
  · replace h := h.1 c3
    refine wg_iconst dX8_bind_19 qiconst_m1 ?_
    exact wp_iret rfl dX8_bind_20 ⟨Nat.le_refl _, Nat.le_refl _⟩ h
  · replace h := h.2 c3
    refine wg_aload_n dX8_bind_8 rfl (Nat.succ_ne_zero _) ?_
    refine wg_getRe dX8_bind_9 (fl_X8_38 rfl) rfl rfl (x1 hS 4 (r := 30) (Nat.le_of_ble_eq_true rfl) nofun nofun rfl) ?_
    refine wg_iload_n dX8_bind_12 rfl ?_
    refine wg_callV (I' := mX6_isSet) (ci := 6) (np := 1) (d' := d) (q := 30) (as := [vI a2]) (st := []) dX8_bind_13 lk_X8_175 ci_X6_isSet rfl (Nat.le_of_ble_eq_true rfl) rfl rfl (Nat.le_of_ble_eq_true rfl) rfl (Nat.le_refl _) ⟨Nat.le_refl _, Nat.le_refl _⟩ h (fun v M4 h => ?_)
    obtain ⟨r5, rfl, hS, h⟩ := h
    refine wg_if_ne dX8_bind_16 rfl (fun c6 => ?_) (fun c6 => ?_)
    · replace h := h.1 c6
      refine wg_iload_n dX8_bind_21 rfl ?_
      refine wg_aload_n dX8_bind_22 rfl (Nat.succ_ne_zero _) ?_
      refine wg_getRe dX8_bind_23 (fl_X8_38 rfl) rfl rfl (x1 hS 4 (r := 30) (Nat.le_of_ble_eq_true rfl) nofun nofun rfl) ?_
      refine wg_aload_n dX8_bind_26 rfl (Nat.succ_ne_zero _) ?_
      refine wg_getRe dX8_bind_27 (fl_X8_45 rfl) rfl rfl (x1 hS 5 (r := 35) (Nat.le_of_ble_eq_true rfl) nofun nofun rfl) ?_
      refine wg_callV (I' := mX5_gone) (ci := 5) (np := 0) (d' := d) (q := 35) (as := []) (st := [vR 30, vI a2]) dX8_bind_30 lk_X8_188 ci_X5_gone rfl (Nat.le_of_ble_eq_true rfl) rfl rfl (Nat.le_of_ble_eq_true rfl) rfl (Nat.le_refl _) ⟨Nat.le_refl _, Nat.le_refl _⟩ h (fun v M7 h => ?_)
      obtain ⟨r8, rfl, hS, h⟩ := h
      refine wg_callV (I' := mX6_thereBesides) (ci := 6) (np := 1) (d' := d) (q := 30) (as := [vI r8]) (st := [vI a2]) dX8_bind_33 lk_X8_191 ci_X6_thereBesides rfl (Nat.le_of_ble_eq_true rfl) rfl rfl (Nat.le_of_ble_eq_true rfl) rfl (Nat.le_refl _) ⟨Nat.le_refl _, Nat.le_refl _⟩ h (fun v M9 h => ?_)
      obtain ⟨r10, rfl, hS, h⟩ := h
      refine wg_iconst dX8_bind_36 qiconst_m1 ?_
      refine wg_ixor dX8_bind_37 ?_
      refine wg_iand dX8_bind_38 ?_
      have hJ26 : Wp G mX8_bind (d + 1) 0 0 47 [some (vR 1), some (vI a1), some (vI a2), none] [vI (if (iandv a2 (ixorv r10 (-1))) = 0 then (1 : Int) else 0)] M9 0 0 Q := by
        refine wg_istore_n (L' := [some (vR 1), some (vI a1), some (vI a2), some (vI (if (iandv a2 (ixorv r10 (-1))) = 0 then (1 : Int) else 0))]) dX8_bind_47 (Nat.le_of_ble_eq_true rfl) rfl ?_
        refine wg_aload_n dX8_bind_48 rfl (Nat.succ_ne_zero _) ?_
        refine wg_getRe dX8_bind_49 (fl_X8_45 rfl) rfl rfl (x1 hS 5 (r := 35) (Nat.le_of_ble_eq_true rfl) nofun nofun rfl) ?_
        refine wg_iload_n dX8_bind_52 rfl ?_
        refine wg_callV (I' := mX5_isBound) (ci := 5) (np := 1) (d' := d) (q := 35) (as := [vI a1]) (st := []) dX8_bind_53 lk_X8_166 ci_X5_isBound rfl (Nat.le_of_ble_eq_true rfl) rfl rfl (Nat.le_of_ble_eq_true rfl) rfl (Nat.le_refl _) ⟨Nat.le_refl _, Nat.le_refl _⟩ h (fun v M12 h => ?_)
        obtain ⟨r13, rfl, hS, h⟩ := h
        refine wg_if_ne dX8_bind_56 rfl (fun c14 => ?_) (fun c14 => ?_)
        · replace h := h.1 c14
          refine wg_bipush dX8_bind_82 qbipush_m2 ?_
          exact wp_iret rfl dX8_bind_84 ⟨Nat.le_refl _, Nat.le_refl _⟩ h
        · replace h := h.2 c14
          refine wg_iload_n dX8_bind_59 rfl ?_
          refine wg_if_eq dX8_bind_60 rfl (fun c15 => ?_) (fun c15 => ?_)
          · replace h := h.1 c15
            refine wg_bipush dX8_bind_82 qbipush_m2 ?_
            exact wp_iret rfl dX8_bind_84 ⟨Nat.le_refl _, Nat.le_refl _⟩ h
          · replace h := h.2 c15
            refine wg_aload_n dX8_bind_63 rfl (Nat.succ_ne_zero _) ?_
            refine wg_getRe dX8_bind_64 (fl_X8_38 rfl) rfl rfl (x1 hS 4 (r := 30) (Nat.le_of_ble_eq_true rfl) nofun nofun rfl) ?_
            refine wg_iload_n dX8_bind_67 rfl ?_
            refine wg_callV (I' := mX6_strengthOf) (ci := 6) (np := 1) (d' := d) (q := 30) (as := [vI a2]) (st := []) dX8_bind_68 lk_X8_178 ci_X6_strengthOf rfl (Nat.le_of_ble_eq_true rfl) rfl rfl (Nat.le_of_ble_eq_true rfl) rfl (Nat.le_refl _) ⟨Nat.le_refl _, Nat.le_refl _⟩ h (fun v M16 h => ?_)
            obtain ⟨r17, rfl, hS, h⟩ := h
            refine wg_aload_n dX8_bind_71 rfl (Nat.succ_ne_zero _) ?_
            have hq18 := (xlaid hS)
            refine wg_getRe dX8_bind_72 (fl_X8_28 rfl) rfl rfl rfl ?_
            refine wg_iload_n dX8_bind_75 rfl ?_
            refine wg_callV (I' := mX7_pullOfBeast) (ci := 7) (np := 1) (d' := d) (q := gR M16 1 2) (as := [vI a1]) (st := [vI r17]) dX8_bind_76 lk_X8_160 ci_X7_pullOfBeast rfl (Nat.le_of_ble_eq_true rfl) rfl rfl (Nat.le_of_ble_eq_true rfl) hq18 (Nat.le_refl _) ⟨Nat.le_refl _, Nat.le_refl _⟩ h (fun v M19 h => ?_)
            obtain ⟨r20, rfl, hS, h⟩ := h
            refine wg_icmp_ge dX8_bind_79 rfl (fun c21 => ?_) (fun c21 => ?_)
            · replace h := h.1 c21
              refine wg_aload_n dX8_bind_85 rfl (Nat.succ_ne_zero _) ?_
              refine wg_getRe dX8_bind_86 (fl_X8_57 rfl) rfl rfl (x1 hS 7 (r := 43) (Nat.le_of_ble_eq_true rfl) nofun nofun rfl) ?_
              refine wg_aload_n dX8_bind_89 rfl (Nat.succ_ne_zero _) ?_
              refine wg_getRe dX8_bind_90 (fl_X8_45 rfl) rfl rfl (x1 hS 5 (r := 35) (Nat.le_of_ble_eq_true rfl) nofun nofun rfl) ?_
              refine wg_callV (I' := mX2_push) (ci := 2) (np := 1) (d' := d) (q := 43) (as := [vR 35]) (st := []) dX8_bind_93 lk_X8_194 ci_X2_push rfl (Nat.le_of_ble_eq_true rfl) rfl rfl (Nat.le_of_ble_eq_true rfl) rfl (Nat.le_refl _) ⟨Nat.le_refl _, Nat.le_refl _⟩ h (fun v M22 h => ?_)
              obtain ⟨rfl, hS, h⟩ := h
              refine wg_aload_n dX8_bind_96 rfl (Nat.succ_ne_zero _) ?_
              refine wg_getRe dX8_bind_97 (fl_X8_45 rfl) rfl rfl (x1 hS 5 (r := 35) (Nat.le_of_ble_eq_true rfl) nofun nofun rfl) ?_
              refine wg_iload_n dX8_bind_100 rfl ?_
              refine wg_iload_n dX8_bind_101 rfl ?_
              refine wg_callV (I' := mX5_tie) (ci := 5) (np := 2) (d' := d) (q := 35) (as := [vI a1, vI a2]) (st := []) dX8_bind_102 lk_X8_198 ci_X5_tie rfl (Nat.le_of_ble_eq_true rfl) rfl rfl (Nat.le_of_ble_eq_true rfl) rfl (Nat.le_refl _) ⟨Nat.le_refl _, Nat.le_refl _⟩ h (fun v M23 h => ?_)
              obtain ⟨rfl, hS, h⟩ := h
              refine wg_aload_n dX8_bind_105 rfl (Nat.succ_ne_zero _) ?_
              refine wg_getRe dX8_bind_106 (fl_X8_38 rfl) rfl rfl (x1 hS 4 (r := 30) (Nat.le_of_ble_eq_true rfl) nofun nofun rfl) ?_
              refine wg_iload_n dX8_bind_109 rfl ?_
              refine wg_callV (I' := mX6_strengthOf) (ci := 6) (np := 1) (d' := d) (q := 30) (as := [vI a2]) (st := []) dX8_bind_110 lk_X8_178 ci_X6_strengthOf rfl (Nat.le_of_ble_eq_true rfl) rfl rfl (Nat.le_of_ble_eq_true rfl) rfl (Nat.le_refl _) ⟨Nat.le_refl _, Nat.le_refl _⟩ h (fun v M24 h => ?_)
              obtain ⟨r25, rfl, hS, h⟩ := h
              exact wp_iret rfl dX8_bind_113 ⟨Nat.le_refl _, Nat.le_refl _⟩ h
            · replace h := h.2 c21
              refine wg_bipush dX8_bind_82 qbipush_m2 ?_
              exact wp_iret rfl dX8_bind_84 ⟨Nat.le_refl _, Nat.le_refl _⟩ h
      refine wg_if_ne dX8_bind_39 rfl (fun c11 => ?_) (fun c11 => ?_)
      · rw [show (if (iandv a2 (ixorv r10 (-1))) = 0 then (1 : Int) else 0) = 0 from if_neg c11] at hJ26
        refine wg_iconst dX8_bind_46 qiconst_0 ?_
        exact hJ26
      · rw [show (if (iandv a2 (ixorv r10 (-1))) = 0 then (1 : Int) else 0) = 1 from if_pos c11] at hJ26
        refine wg_iconst dX8_bind_42 qiconst_1 ?_
        refine wg_goto dX8_bind_43 rfl ?_
        exact hJ26
    · replace h := h.2 c6
      refine wg_iconst dX8_bind_19 qiconst_m1 ?_
      exact wp_iret rfl dX8_bind_20 ⟨Nat.le_refl _, Nat.le_refl _⟩ h
set_option maxRecDepth 100000 in
theorem bX8_loosen_0 {G : GG} {d : Nat} {M : MM} {Q : Option AV → MM → Prop} (a1 : Int) (hS : ShX M) (h :
Ok G mX8_isBeast d 0 0 [vR 1, vI a1] M (fun v M1 => ∃ r2 : Int, v = some (vI r2) ∧ ShX M1 ∧ 
((r2 ≠ 0 →
(Ok G mX5_isBound d 0 0 [vR 35, vI a1] M1 (fun v M4 => ∃ r5 : Int, v = some (vI r5) ∧ ShX M4 ∧ 
((r5 ≠ 0 →
(Ok G mX2_push d 0 0 [vR 43, vR 35] M4 (fun v M7 => v = none ∧ ShX M7 ∧ 
(Ok G mX5_ribbonOf d 0 0 [vR 35, vI a1] M7 (fun v M8 => ∃ r9 : Int, v = some (vI r9) ∧ ShX M8 ∧ 
(Ok G mJ6_bitCount_0f7a4 d 0 0 [vI r9] M8 (fun v M10 => ∃ r11 : Int, v = some (vI r11) ∧ ShX M10 ∧ 
(Ok G mX5_untie d 0 0 [vR 35, vI a1] M10 (fun v M12 => v = none ∧ ShX M12 ∧ 
(Q (some (vI r11)) M12)))))))))) ∧
(r5 = 0 →
(Q (some (vI (-2))) M4)))))) ∧
(r2 = 0 →
(Q (some (vI (-1))) M1))))) :
  Wp G mX8_loosen (d + 1) 0 0 0 [some (vR 1), some (vI a1), none] [] M 0 0 Q := by
  refine wg_aload_n dX8_loosen_0 rfl (Nat.succ_ne_zero _) ?_
  refine wg_iload_n dX8_loosen_1 rfl ?_
  refine wg_callV (I' := mX8_isBeast) (ci := 8) (np := 1) (d' := d) (q := 1) (as := [vI a1]) (st := []) dX8_loosen_2 lk_X8_157 ci_X8_isBeast rfl (Nat.le_of_ble_eq_true rfl) rfl rfl (Nat.le_of_ble_eq_true rfl) rfl (Nat.le_refl _) ⟨Nat.le_refl _, Nat.le_refl _⟩ h (fun v M1 h => ?_)
  obtain ⟨r2, rfl, hS, h⟩ := h
  refine wg_if_ne dX8_loosen_5 rfl (fun c3 => ?_) (fun c3 => ?_)
  · replace h := h.1 c3
    refine wg_aload_n dX8_loosen_10 rfl (Nat.succ_ne_zero _) ?_
    refine wg_getRe dX8_loosen_11 (fl_X8_45 rfl) rfl rfl (x1 hS 5 (r := 35) (Nat.le_of_ble_eq_true rfl) nofun nofun rfl) ?_
    refine wg_iload_n dX8_loosen_14 rfl ?_
    refine wg_callV (I' := mX5_isBound) (ci := 5) (np := 1) (d' := d) (q := 35) (as := [vI a1]) (st := []) dX8_loosen_15 lk_X8_166 ci_X5_isBound rfl (Nat.le_of_ble_eq_true rfl) rfl rfl (Nat.le_of_ble_eq_true rfl) rfl (Nat.le_refl _) ⟨Nat.le_refl _, Nat.le_refl _⟩ h (fun v M4 h => ?_)
    obtain ⟨r5, rfl, hS, h⟩ := h
    refine wg_if_ne dX8_loosen_18 rfl (fun c6 => ?_) (fun c6 => ?_)
    · replace h := h.1 c6
      refine wg_aload_n dX8_loosen_24 rfl (Nat.succ_ne_zero _) ?_
      refine wg_getRe dX8_loosen_25 (fl_X8_57 rfl) rfl rfl (x1 hS 7 (r := 43) (Nat.le_of_ble_eq_true rfl) nofun nofun rfl) ?_
      refine wg_aload_n dX8_loosen_28 rfl (Nat.succ_ne_zero _) ?_
      refine wg_getRe dX8_loosen_29 (fl_X8_45 rfl) rfl rfl (x1 hS 5 (r := 35) (Nat.le_of_ble_eq_true rfl) nofun nofun rfl) ?_
      refine wg_callV (I' := mX2_push) (ci := 2) (np := 1) (d' := d) (q := 43) (as := [vR 35]) (st := []) dX8_loosen_32 lk_X8_194 ci_X2_push rfl (Nat.le_of_ble_eq_true rfl) rfl rfl (Nat.le_of_ble_eq_true rfl) rfl (Nat.le_refl _) ⟨Nat.le_refl _, Nat.le_refl _⟩ h (fun v M7 h => ?_)
      obtain ⟨rfl, hS, h⟩ := h
      refine wg_aload_n dX8_loosen_35 rfl (Nat.succ_ne_zero _) ?_
      refine wg_getRe dX8_loosen_36 (fl_X8_45 rfl) rfl rfl (x1 hS 5 (r := 35) (Nat.le_of_ble_eq_true rfl) nofun nofun rfl) ?_
      refine wg_iload_n dX8_loosen_39 rfl ?_
      refine wg_callV (I' := mX5_ribbonOf) (ci := 5) (np := 1) (d' := d) (q := 35) (as := [vI a1]) (st := []) dX8_loosen_40 lk_X8_163 ci_X5_ribbonOf rfl (Nat.le_of_ble_eq_true rfl) rfl rfl (Nat.le_of_ble_eq_true rfl) rfl (Nat.le_refl _) ⟨Nat.le_refl _, Nat.le_refl _⟩ h (fun v M8 h => ?_)
      obtain ⟨r9, rfl, hS, h⟩ := h
      refine wg_callS (I' := mJ6_bitCount_0f7a4) (np := 1) (d' := d) (as := [vI r9]) (st := []) dX8_loosen_43 lk_X8_202 ci_J6_bitCount_0f7a4 rfl rfl (Nat.le_of_ble_eq_true rfl) (Nat.le_refl _) ⟨Nat.le_refl _, Nat.le_refl _⟩ h (fun v M10 h => ?_)
      obtain ⟨r11, rfl, hS, h⟩ := h
      refine wg_istore_n (L' := [some (vR 1), some (vI a1), some (vI r11)]) dX8_loosen_46 (Nat.le_of_ble_eq_true rfl) rfl ?_
      refine wg_aload_n dX8_loosen_47 rfl (Nat.succ_ne_zero _) ?_
      refine wg_getRe dX8_loosen_48 (fl_X8_45 rfl) rfl rfl (x1 hS 5 (r := 35) (Nat.le_of_ble_eq_true rfl) nofun nofun rfl) ?_
      refine wg_iload_n dX8_loosen_51 rfl ?_
      refine wg_callV (I' := mX5_untie) (ci := 5) (np := 1) (d' := d) (q := 35) (as := [vI a1]) (st := []) dX8_loosen_52 lk_X8_207 ci_X5_untie rfl (Nat.le_of_ble_eq_true rfl) rfl rfl (Nat.le_of_ble_eq_true rfl) rfl (Nat.le_refl _) ⟨Nat.le_refl _, Nat.le_refl _⟩ h (fun v M12 h => ?_)
      obtain ⟨rfl, hS, h⟩ := h
      refine wg_iload_n dX8_loosen_55 rfl ?_
      exact wp_iret rfl dX8_loosen_56 ⟨Nat.le_refl _, Nat.le_refl _⟩ h
    · replace h := h.2 c6
      refine wg_bipush dX8_loosen_21 qbipush_m2 ?_
      exact wp_iret rfl dX8_loosen_23 ⟨Nat.le_refl _, Nat.le_refl _⟩ h
  · replace h := h.2 c3
    refine wg_iconst dX8_loosen_8 qiconst_m1 ?_
    exact wp_iret rfl dX8_loosen_9 ⟨Nat.le_refl _, Nat.le_refl _⟩ h
set_option maxRecDepth 100000 in
theorem bX8_days_0 {G : GG} {d : Nat} {M : MM} {Q : Option AV → MM → Prop} (a1 : Int) (hS : ShX M) (h :
(a1 < 1 →
(Q (some (vI (-1))) M)) ∧
(¬ (a1 < 1) →
((a1 ≤ 40 →
(R32 ((gI M 35 0) + a1) ∧
((((gI M 35 0) + a1) ≤ 999 →
(Ok G mX2_push d 0 0 [vR 43, vR 35] M (fun v M4 => v = none ∧ ShX M4 ∧ 
(Wp G mX8_days (d + 1) 0 0 46 [some (vR 1), some (vI a1), some (vI 0), some (vI 0)] [] M4 0 0 Q)))) ∧
(¬ (((gI M 35 0) + a1) ≤ 999) →
(Q (some (vI (-2))) M))))) ∧
(¬ (a1 ≤ 40) →
(Q (some (vI (-1))) M))))) :
  Wp G mX8_days (d + 1) 0 0 0 [some (vR 1), some (vI a1), none, none] [] M 0 0 Q := by
  refine wg_iload_n dX8_days_0 rfl ?_
  refine wg_iconst dX8_days_1 qiconst_1 ?_
  refine wg_icmp_lt dX8_days_2 rfl (fun c1 => ?_) (fun c1 => ?_)
  · replace h := h.1 c1
    refine wg_iconst dX8_days_11 qiconst_m1 ?_
    exact wp_iret rfl dX8_days_12 ⟨Nat.le_refl _, Nat.le_refl _⟩ h
  · replace h := h.2 c1
    refine wg_iload_n dX8_days_5 rfl ?_
    refine wg_bipush dX8_days_6 qbipush_40 ?_
    refine wg_icmp_le dX8_days_8 rfl (fun c2 => ?_) (fun c2 => ?_)
    · replace h := h.1 c2
      refine wg_aload_n dX8_days_13 rfl (Nat.succ_ne_zero _) ?_
      refine wg_getRe dX8_days_14 (fl_X8_45 rfl) rfl rfl (x1 hS 5 (r := 35) (Nat.le_of_ble_eq_true rfl) nofun nofun rfl) ?_
      refine wg_getI dX8_days_17 (fl_X8_210 rfl) rfl rfl ?_
      refine wg_iload_n dX8_days_20 rfl ?_
      obtain ⟨o, h⟩ := h
      refine wg_iadd dX8_days_21 o ?_
      refine wg_sipush dX8_days_22 qsipush_999 ?_
      refine wg_icmp_le dX8_days_25 rfl (fun c3 => ?_) (fun c3 => ?_)
      · replace h := h.1 c3
        refine wg_aload_n dX8_days_31 rfl (Nat.succ_ne_zero _) ?_
        refine wg_getRe dX8_days_32 (fl_X8_57 rfl) rfl rfl (x1 hS 7 (r := 43) (Nat.le_of_ble_eq_true rfl) nofun nofun rfl) ?_
        refine wg_aload_n dX8_days_35 rfl (Nat.succ_ne_zero _) ?_
        refine wg_getRe dX8_days_36 (fl_X8_45 rfl) rfl rfl (x1 hS 5 (r := 35) (Nat.le_of_ble_eq_true rfl) nofun nofun rfl) ?_
        refine wg_callV (I' := mX2_push) (ci := 2) (np := 1) (d' := d) (q := 43) (as := [vR 35]) (st := []) dX8_days_39 lk_X8_194 ci_X2_push rfl (Nat.le_of_ble_eq_true rfl) rfl rfl (Nat.le_of_ble_eq_true rfl) rfl (Nat.le_refl _) ⟨Nat.le_refl _, Nat.le_refl _⟩ h (fun v M4 h => ?_)
        obtain ⟨rfl, hS, h⟩ := h
        refine wg_iconst dX8_days_42 qiconst_0 ?_
        refine wg_istore_n (L' := [some (vR 1), some (vI a1), some (vI 0), none]) dX8_days_43 (Nat.le_of_ble_eq_true rfl) rfl ?_
        refine wg_iconst dX8_days_44 qiconst_0 ?_
        refine wg_istore_n (L' := [some (vR 1), some (vI a1), some (vI 0), some (vI 0)]) dX8_days_45 (Nat.le_of_ble_eq_true rfl) rfl ?_
        exact h
      · replace h := h.2 c3
        refine wg_bipush dX8_days_28 qbipush_m2 ?_
        exact wp_iret rfl dX8_days_30 ⟨Nat.le_refl _, Nat.le_refl _⟩ h
    · replace h := h.2 c2
      refine wg_iconst dX8_days_11 qiconst_m1 ?_
      exact wp_iret rfl dX8_days_12 ⟨Nat.le_refl _, Nat.le_refl _⟩ h
set_option maxRecDepth 100000 in
theorem bX8_days_46 {G : GG} {d : Nat} {M : MM} {Q : Option AV → MM → Prop} (a1 : Int) (s2 : Int) (s3 : Int) (hS : ShX M) (h :
(a1 ≤ s3 →
(Q (some (vI s2)) M)) ∧
(¬ (a1 ≤ s3) →
(Ok G mX5_passDay d 0 0 [vR 35, vR (gR M 1 2), vR 30] M (fun v M4 => ∃ r5 : Int, v = some (vI r5) ∧ ShX M4 ∧ 
(R32 (s2 + r5) ∧
(R32 (s3 + 1) ∧
(Wp G mX8_days (d + 1) 0 0 46 [some (vR 1), some (vI a1), some (vI (s2 + r5)), some (vI (s3 + 1))] [] M4 0 0 Q))))))) :
  Wp G mX8_days (d + 1) 0 0 46 [some (vR 1), some (vI a1), some (vI s2), some (vI s3)] [] M 0 0 Q := by
  refine wg_iload_n dX8_days_46 rfl ?_
  refine wg_iload_n dX8_days_47 rfl ?_
  refine wg_icmp_ge dX8_days_48 rfl (fun c2 => ?_) (fun c2 => ?_)
  · replace h := h.1 c2
    refine wg_iload_n dX8_days_75 rfl ?_
    exact wp_iret rfl dX8_days_76 ⟨Nat.le_refl _, Nat.le_refl _⟩ h
  · replace h := h.2 c2
    refine wg_iload_n dX8_days_51 rfl ?_
    refine wg_aload_n dX8_days_52 rfl (Nat.succ_ne_zero _) ?_
    refine wg_getRe dX8_days_53 (fl_X8_45 rfl) rfl rfl (x1 hS 5 (r := 35) (Nat.le_of_ble_eq_true rfl) nofun nofun rfl) ?_
    refine wg_aload_n dX8_days_56 rfl (Nat.succ_ne_zero _) ?_
    have hq3 := (xlaid hS)
    refine wg_getRe dX8_days_57 (fl_X8_28 rfl) rfl rfl rfl ?_
    refine wg_aload_n dX8_days_60 rfl (Nat.succ_ne_zero _) ?_
    refine wg_getRe dX8_days_61 (fl_X8_38 rfl) rfl rfl (x1 hS 4 (r := 30) (Nat.le_of_ble_eq_true rfl) nofun nofun rfl) ?_
    refine wg_callV (I' := mX5_passDay) (ci := 5) (np := 2) (d' := d) (q := 35) (as := [vR (gR M 1 2), vR 30]) (st := [vI s2]) dX8_days_64 lk_X8_213 ci_X5_passDay rfl (Nat.le_of_ble_eq_true rfl) rfl rfl (Nat.le_of_ble_eq_true rfl) rfl (Nat.le_refl _) ⟨Nat.le_refl _, Nat.le_refl _⟩ h (fun v M4 h => ?_)
    obtain ⟨r5, rfl, hS, h⟩ := h
    obtain ⟨o, h⟩ := h
    refine wg_iadd dX8_days_67 o ?_
    refine wg_istore_n (L' := [some (vR 1), some (vI a1), some (vI (s2 + r5)), some (vI s3)]) dX8_days_68 (Nat.le_of_ble_eq_true rfl) rfl ?_
    obtain ⟨o, h⟩ := h
    refine wg_iinc (L' := [some (vR 1), some (vI a1), some (vI (s2 + r5)), some (vI (s3 + 1))]) dX8_days_69 (Nat.le_of_ble_eq_true rfl) rfl rfl o ?_
    refine wg_goto dX8_days_72 rfl ?_
    exact h
set_option maxRecDepth 100000 in
theorem bX8_undo_0 {G : GG} {d : Nat} {M : MM} {Q : Option AV → MM → Prop} (hS : ShX M) (h :
Ok G mX2_popInto d 0 0 [vR 43, vR 35] M (fun v M1 => ∃ r2 : Int, v = some (vI r2) ∧ ShX M1 ∧ 
((r2 = 0 →
(Q (some (vI (-2))) M1)) ∧
(¬ (r2 = 0) →
(Ok G mX2_size d 0 0 [vR 43] M1 (fun v M4 => ∃ r5 : Int, v = some (vI r5) ∧ ShX M4 ∧ 
(Q (some (vI r5)) M4))))))) :
  Wp G mX8_undo (d + 1) 0 0 0 [some (vR 1)] [] M 0 0 Q := by
  refine wg_aload_n dX8_undo_0 rfl (Nat.succ_ne_zero _) ?_
  refine wg_getRe dX8_undo_1 (fl_X8_57 rfl) rfl rfl (x1 hS 7 (r := 43) (Nat.le_of_ble_eq_true rfl) nofun nofun rfl) ?_
  refine wg_aload_n dX8_undo_4 rfl (Nat.succ_ne_zero _) ?_
  refine wg_getRe dX8_undo_5 (fl_X8_45 rfl) rfl rfl (x1 hS 5 (r := 35) (Nat.le_of_ble_eq_true rfl) nofun nofun rfl) ?_
  refine wg_callV (I' := mX2_popInto) (ci := 2) (np := 1) (d' := d) (q := 43) (as := [vR 35]) (st := []) dX8_undo_8 lk_X8_217 ci_X2_popInto rfl (Nat.le_of_ble_eq_true rfl) rfl rfl (Nat.le_of_ble_eq_true rfl) rfl (Nat.le_refl _) ⟨Nat.le_refl _, Nat.le_refl _⟩ h (fun v M1 h => ?_)
  obtain ⟨r2, rfl, hS, h⟩ := h
  refine wg_if_eq dX8_undo_11 rfl (fun c3 => ?_) (fun c3 => ?_)
  · replace h := h.1 c3
    refine wg_bipush dX8_undo_24 qbipush_m2 ?_
    exact wp_iret rfl dX8_undo_26 ⟨Nat.le_refl _, Nat.le_refl _⟩ h
  · replace h := h.2 c3
    refine wg_aload_n dX8_undo_14 rfl (Nat.succ_ne_zero _) ?_
    refine wg_getRe dX8_undo_15 (fl_X8_57 rfl) rfl rfl (x1 hS 7 (r := 43) (Nat.le_of_ble_eq_true rfl) nofun nofun rfl) ?_
    refine wg_callV (I' := mX2_size) (ci := 2) (np := 0) (d' := d) (q := 43) (as := []) (st := []) dX8_undo_18 lk_X8_221 ci_X2_size rfl (Nat.le_of_ble_eq_true rfl) rfl rfl (Nat.le_of_ble_eq_true rfl) rfl (Nat.le_refl _) ⟨Nat.le_refl _, Nat.le_refl _⟩ h (fun v M4 h => ?_)
    obtain ⟨r5, rfl, hS, h⟩ := h
    refine wg_goto dX8_undo_21 rfl ?_
    exact wp_iret rfl dX8_undo_26 ⟨Nat.le_refl _, Nat.le_refl _⟩ h
set_option maxRecDepth 100000 in
theorem bX8_cost_0 {G : GG} {d : Nat} {M : MM} {Q : Option AV → MM → Prop} (a1 : Int) (hS : ShX M) (h :
Ok G mX6_isSet d 0 0 [vR 30, vI a1] M (fun v M1 => ∃ r2 : Int, v = some (vI r2) ∧ ShX M1 ∧ 
((r2 = 0 →
(Q (some (vI (-1))) M1)) ∧
(¬ (r2 = 0) →
(Ok G mX5_gone d 0 0 [vR 35] M1 (fun v M4 => ∃ r5 : Int, v = some (vI r5) ∧ ShX M4 ∧ 
(Ok G mX6_costOf d 0 0 [vR 30, vI a1, vI r5] M4 (fun v M6 => ∃ r7 : Int, v = some (vI r7) ∧ ShX M6 ∧ 
(Q (some (vI r7)) M6))))))))) :
  Wp G mX8_cost (d + 1) 0 0 0 [some (vR 1), some (vI a1)] [] M 0 0 Q := by
  refine wg_aload_n dX8_cost_0 rfl (Nat.succ_ne_zero _) ?_
  refine wg_getRe dX8_cost_1 (fl_X8_38 rfl) rfl rfl (x1 hS 4 (r := 30) (Nat.le_of_ble_eq_true rfl) nofun nofun rfl) ?_
  refine wg_iload_n dX8_cost_4 rfl ?_
  refine wg_callV (I' := mX6_isSet) (ci := 6) (np := 1) (d' := d) (q := 30) (as := [vI a1]) (st := []) dX8_cost_5 lk_X8_175 ci_X6_isSet rfl (Nat.le_of_ble_eq_true rfl) rfl rfl (Nat.le_of_ble_eq_true rfl) rfl (Nat.le_refl _) ⟨Nat.le_refl _, Nat.le_refl _⟩ h (fun v M1 h => ?_)
  obtain ⟨r2, rfl, hS, h⟩ := h
  refine wg_if_eq dX8_cost_8 rfl (fun c3 => ?_) (fun c3 => ?_)
  · replace h := h.1 c3
    refine wg_iconst dX8_cost_29 qiconst_m1 ?_
    exact wp_iret rfl dX8_cost_30 ⟨Nat.le_refl _, Nat.le_refl _⟩ h
  · replace h := h.2 c3
    refine wg_aload_n dX8_cost_11 rfl (Nat.succ_ne_zero _) ?_
    refine wg_getRe dX8_cost_12 (fl_X8_38 rfl) rfl rfl (x1 hS 4 (r := 30) (Nat.le_of_ble_eq_true rfl) nofun nofun rfl) ?_
    refine wg_iload_n dX8_cost_15 rfl ?_
    refine wg_aload_n dX8_cost_16 rfl (Nat.succ_ne_zero _) ?_
    refine wg_getRe dX8_cost_17 (fl_X8_45 rfl) rfl rfl (x1 hS 5 (r := 35) (Nat.le_of_ble_eq_true rfl) nofun nofun rfl) ?_
    refine wg_callV (I' := mX5_gone) (ci := 5) (np := 0) (d' := d) (q := 35) (as := []) (st := [vI a1, vR 30]) dX8_cost_20 lk_X8_188 ci_X5_gone rfl (Nat.le_of_ble_eq_true rfl) rfl rfl (Nat.le_of_ble_eq_true rfl) rfl (Nat.le_refl _) ⟨Nat.le_refl _, Nat.le_refl _⟩ h (fun v M4 h => ?_)
    obtain ⟨r5, rfl, hS, h⟩ := h
    refine wg_callV (I' := mX6_costOf) (ci := 6) (np := 2) (d' := d) (q := 30) (as := [vI a1, vI r5]) (st := []) dX8_cost_23 lk_X8_222 ci_X6_costOf rfl (Nat.le_of_ble_eq_true rfl) rfl rfl (Nat.le_of_ble_eq_true rfl) rfl (Nat.le_refl _) ⟨Nat.le_refl _, Nat.le_refl _⟩ h (fun v M6 h => ?_)
    obtain ⟨r7, rfl, hS, h⟩ := h
    refine wg_goto dX8_cost_26 rfl ?_
    exact wp_iret rfl dX8_cost_30 ⟨Nat.le_refl _, Nat.le_refl _⟩ h
set_option maxRecDepth 100000 in
theorem bX8_least_0 {G : GG} {d : Nat} {M : MM} {Q : Option AV → MM → Prop} (a1 : Int) (a2 : Int) (hS : ShX M) (h :
Ok G mX8_isBeast d 0 0 [vR 1, vI a1] M (fun v M1 => ∃ r2 : Int, v = some (vI r2) ∧ ShX M1 ∧ 
((r2 = 0 →
(Q (some (vI (-1))) M1)) ∧
(¬ (r2 = 0) →
((a2 < 0 →
(Q (some (vI (-1))) M1)) ∧
(¬ (a2 < 0) →
((a2 ≤ 1 →
(Ok G mX7_pullOfBeast d 0 0 [vR (gR M1 1 2), vI a1] M1 (fun v M7 => ∃ r8 : Int, v = some (vI r8) ∧ ShX M7 ∧ 
(Ok G mX5_gone d 0 0 [vR 35] M7 (fun v M9 => ∃ r10 : Int, v = some (vI r10) ∧ ShX M9 ∧ 
(Ok G mX3_findLeast d 0 0 [vR 87, vI r8, vI r10] M9 (fun v M11 => ∃ r12 : Int, v = some (vI r12) ∧ ShX M11 ∧ 
((r12 ≠ 0 →
(Q (some (vI (if a2 = 0 then (gI M11 87 0 : Int) else gI M11 87 1))) M11)) ∧
(r12 = 0 →
(Q (some (vI (-4))) M11)))))))))) ∧
(¬ (a2 ≤ 1) →
(Q (some (vI (-1))) M1))))))))) :
  Wp G mX8_least (d + 1) 0 0 0 [some (vR 1), some (vI a1), some (vI a2)] [] M 0 0 Q := by
  refine wg_aload_n dX8_least_0 rfl (Nat.succ_ne_zero _) ?_
  refine wg_iload_n dX8_least_1 rfl ?_
  refine wg_callV (I' := mX8_isBeast) (ci := 8) (np := 1) (d' := d) (q := 1) (as := [vI a1]) (st := []) dX8_least_2 lk_X8_157 ci_X8_isBeast rfl (Nat.le_of_ble_eq_true rfl) rfl rfl (Nat.le_of_ble_eq_true rfl) rfl (Nat.le_refl _) ⟨Nat.le_refl _, Nat.le_refl _⟩ h (fun v M1 h => ?_)
  obtain ⟨r2, rfl, hS, h⟩ := h
  refine wg_if_eq dX8_least_5 rfl (fun c3 => ?_) (fun c3 => ?_)
  · replace h := h.1 c3
    refine wg_iconst dX8_least_17 qiconst_m1 ?_
    exact wp_iret rfl dX8_least_18 ⟨Nat.le_refl _, Nat.le_refl _⟩ h
  · replace h := h.2 c3
    refine wg_iload_n dX8_least_8 rfl ?_
    refine wg_if_lt dX8_least_9 rfl (fun c4 => ?_) (fun c4 => ?_)
    · replace h := h.1 c4
      refine wg_iconst dX8_least_17 qiconst_m1 ?_
      exact wp_iret rfl dX8_least_18 ⟨Nat.le_refl _, Nat.le_refl _⟩ h
    · replace h := h.2 c4
      refine wg_iload_n dX8_least_12 rfl ?_
      refine wg_iconst dX8_least_13 qiconst_1 ?_
      refine wg_icmp_le dX8_least_14 rfl (fun c5 => ?_) (fun c5 => ?_)
      · replace h := h.1 c5
        refine wg_aload_n dX8_least_19 rfl (Nat.succ_ne_zero _) ?_
        refine wg_getRe dX8_least_20 (fl_X8_69 rfl) rfl rfl (x1 hS 9 (r := 87) (Nat.le_of_ble_eq_true rfl) nofun nofun rfl) ?_
        refine wg_aload_n dX8_least_23 rfl (Nat.succ_ne_zero _) ?_
        have hq6 := (xlaid hS)
        refine wg_getRe dX8_least_24 (fl_X8_28 rfl) rfl rfl rfl ?_
        refine wg_iload_n dX8_least_27 rfl ?_
        refine wg_callV (I' := mX7_pullOfBeast) (ci := 7) (np := 1) (d' := d) (q := gR M1 1 2) (as := [vI a1]) (st := [vR 87]) dX8_least_28 lk_X8_160 ci_X7_pullOfBeast rfl (Nat.le_of_ble_eq_true rfl) rfl rfl (Nat.le_of_ble_eq_true rfl) hq6 (Nat.le_refl _) ⟨Nat.le_refl _, Nat.le_refl _⟩ h (fun v M7 h => ?_)
        obtain ⟨r8, rfl, hS, h⟩ := h
        refine wg_aload_n dX8_least_31 rfl (Nat.succ_ne_zero _) ?_
        refine wg_getRe dX8_least_32 (fl_X8_45 rfl) rfl rfl (x1 hS 5 (r := 35) (Nat.le_of_ble_eq_true rfl) nofun nofun rfl) ?_
        refine wg_callV (I' := mX5_gone) (ci := 5) (np := 0) (d' := d) (q := 35) (as := []) (st := [vI r8, vR 87]) dX8_least_35 lk_X8_188 ci_X5_gone rfl (Nat.le_of_ble_eq_true rfl) rfl rfl (Nat.le_of_ble_eq_true rfl) rfl (Nat.le_refl _) ⟨Nat.le_refl _, Nat.le_refl _⟩ h (fun v M9 h => ?_)
        obtain ⟨r10, rfl, hS, h⟩ := h
        refine wg_callV (I' := mX3_findLeast) (ci := 3) (np := 2) (d' := d) (q := 87) (as := [vI r8, vI r10]) (st := []) dX8_least_38 lk_X8_226 ci_X3_findLeast rfl (Nat.le_of_ble_eq_true rfl) rfl rfl (Nat.le_of_ble_eq_true rfl) rfl (Nat.le_refl _) ⟨Nat.le_refl _, Nat.le_refl _⟩ h (fun v M11 h => ?_)
        obtain ⟨r12, rfl, hS, h⟩ := h
        refine wg_if_ne dX8_least_41 rfl (fun c13 => ?_) (fun c13 => ?_)
        · replace h := h.1 c13
          refine wg_iload_n dX8_least_47 rfl ?_
          have hJ15 : Wp G mX8_least (d + 1) 0 0 68 [some (vR 1), some (vI a1), some (vI a2)] [vI (if a2 = 0 then (gI M11 87 0 : Int) else gI M11 87 1)] M11 0 0 Q := by
            exact wp_iret rfl dX8_least_68 ⟨Nat.le_refl _, Nat.le_refl _⟩ h
          refine wg_if_ne dX8_least_48 rfl (fun c14 => ?_) (fun c14 => ?_)
          · rw [show (if a2 = 0 then (gI M11 87 0 : Int) else gI M11 87 1) = gI M11 87 1 from if_neg c14] at hJ15
            refine wg_aload_n dX8_least_61 rfl (Nat.succ_ne_zero _) ?_
            refine wg_getRe dX8_least_62 (fl_X8_69 rfl) rfl rfl (x1 hS 9 (r := 87) (Nat.le_of_ble_eq_true rfl) nofun nofun rfl) ?_
            refine wg_getI dX8_least_65 (fl_X8_233 rfl) rfl rfl ?_
            exact hJ15
          · rw [show (if a2 = 0 then (gI M11 87 0 : Int) else gI M11 87 1) = gI M11 87 0 from if_pos c14] at hJ15
            refine wg_aload_n dX8_least_51 rfl (Nat.succ_ne_zero _) ?_
            refine wg_getRe dX8_least_52 (fl_X8_69 rfl) rfl rfl (x1 hS 9 (r := 87) (Nat.le_of_ble_eq_true rfl) nofun nofun rfl) ?_
            refine wg_getI dX8_least_55 (fl_X8_230 rfl) rfl rfl ?_
            refine wg_goto dX8_least_58 rfl ?_
            exact hJ15
        · replace h := h.2 c13
          refine wg_bipush dX8_least_44 qbipush_m4 ?_
          exact wp_iret rfl dX8_least_46 ⟨Nat.le_refl _, Nat.le_refl _⟩ h
      · replace h := h.2 c5
        refine wg_iconst dX8_least_17 qiconst_m1 ?_
        exact wp_iret rfl dX8_least_18 ⟨Nat.le_refl _, Nat.le_refl _⟩ h
set_option maxRecDepth 100000 in
theorem bX8_all_0 {G : GG} {d : Nat} {M : MM} {Q : Option AV → MM → Prop} (a1 : Int) (hS : ShX M) (h :
(a1 < (-2) →
(Q (some (vI (-1))) M)) ∧
(¬ (a1 < (-2)) →
((a1 < (gI M (gR M 1 2) 3) →
(Ok G mX3_findAll d 0 0 [vR 87, vR (gR M 1 2), vR 35] M (fun v M6 => ∃ r7 : Int, v = some (vI r7) ∧ ShX M6 ∧ 
((r7 ≠ 0 →
((a1 = (-2) →
(Q (some (vI (gI M6 87 3))) M6)) ∧
(a1 = (-1) →
(Q (some (vI (gI M6 87 2))) M6)) ∧
((¬ a1 = (-2) ∧ ¬ a1 = (-1)) →
(Ok G mX3_ribbonInAll d 0 0 [vR 87, vI a1] M6 (fun v M9 => ∃ r10 : Int, v = some (vI r10) ∧ ShX M9 ∧ 
(Q (some (vI r10)) M9)))))) ∧
(r7 = 0 →
(Q (some (vI (-4))) M6)))))) ∧
(¬ (a1 < (gI M (gR M 1 2) 3)) →
(Q (some (vI (-1))) M))))) :
  Wp G mX8_all (d + 1) 0 0 0 [some (vR 1), some (vI a1)] [] M 0 0 Q := by
  refine wg_iload_n dX8_all_0 rfl ?_
  refine wg_bipush dX8_all_1 qbipush_m2 ?_
  refine wg_icmp_lt dX8_all_3 rfl (fun c2 => ?_) (fun c2 => ?_)
  · replace h := h.1 c2
    refine wg_iconst dX8_all_17 qiconst_m1 ?_
    exact wp_iret rfl dX8_all_18 ⟨Nat.le_refl _, Nat.le_refl _⟩ h
  · replace h := h.2 c2
    refine wg_iload_n dX8_all_6 rfl ?_
    refine wg_aload_n dX8_all_7 rfl (Nat.succ_ne_zero _) ?_
    have hq3 := (xlaid hS)
    refine wg_getRe dX8_all_8 (fl_X8_28 rfl) rfl rfl rfl ?_
    refine wg_getI dX8_all_11 (fl_X8_114 rfl) rfl hq3 ?_
    refine wg_icmp_lt dX8_all_14 rfl (fun c4 => ?_) (fun c4 => ?_)
    · replace h := h.1 c4
      refine wg_aload_n dX8_all_19 rfl (Nat.succ_ne_zero _) ?_
      refine wg_getRe dX8_all_20 (fl_X8_69 rfl) rfl rfl (x1 hS 9 (r := 87) (Nat.le_of_ble_eq_true rfl) nofun nofun rfl) ?_
      refine wg_aload_n dX8_all_23 rfl (Nat.succ_ne_zero _) ?_
      have hq5 := (xlaid hS)
      refine wg_getRe dX8_all_24 (fl_X8_28 rfl) rfl rfl rfl ?_
      refine wg_aload_n dX8_all_27 rfl (Nat.succ_ne_zero _) ?_
      refine wg_getRe dX8_all_28 (fl_X8_45 rfl) rfl rfl (x1 hS 5 (r := 35) (Nat.le_of_ble_eq_true rfl) nofun nofun rfl) ?_
      refine wg_callV (I' := mX3_findAll) (ci := 3) (np := 2) (d' := d) (q := 87) (as := [vR (gR M 1 2), vR 35]) (st := []) dX8_all_31 lk_X8_236 ci_X3_findAll rfl (Nat.le_of_ble_eq_true rfl) rfl rfl (Nat.le_of_ble_eq_true rfl) rfl (Nat.le_refl _) ⟨Nat.le_refl _, Nat.le_refl _⟩ h (fun v M6 h => ?_)
      obtain ⟨r7, rfl, hS, h⟩ := h
      refine wg_if_ne dX8_all_34 rfl (fun c8 => ?_) (fun c8 => ?_)
      · replace h := h.1 c8
        refine wg_iload_n dX8_all_40 rfl ?_
        by_cases c0 : a1 = (-2)
        · replace h := h.1 c0
          refine wg_lookup dX8_all_41 (by decide) (off := 27) (by rw [c0]; decide) rfl ?_
          refine wg_aload_n dX8_all_68 rfl (Nat.succ_ne_zero _) ?_
          refine wg_getRe dX8_all_69 (fl_X8_69 rfl) rfl rfl (x1 hS 9 (r := 87) (Nat.le_of_ble_eq_true rfl) nofun nofun rfl) ?_
          refine wg_getI dX8_all_72 (fl_X8_240 rfl) rfl rfl ?_
          exact wp_iret rfl dX8_all_75 ⟨Nat.le_refl _, Nat.le_refl _⟩ h
        by_cases c1 : a1 = (-1)
        · replace h := h.2.1 c1
          refine wg_lookup dX8_all_41 (by decide) (off := 35) (by rw [c1]; decide) rfl ?_
          refine wg_aload_n dX8_all_76 rfl (Nat.succ_ne_zero _) ?_
          refine wg_getRe dX8_all_77 (fl_X8_69 rfl) rfl rfl (x1 hS 9 (r := 87) (Nat.le_of_ble_eq_true rfl) nofun nofun rfl) ?_
          refine wg_getI dX8_all_80 (fl_X8_243 rfl) rfl rfl ?_
          exact wp_iret rfl dX8_all_83 ⟨Nat.le_refl _, Nat.le_refl _⟩ h
        replace h := h.2.2 ⟨c0, c1⟩
        refine wg_lookup dX8_all_41 (by decide) (off := 43) (off_none (fun q hq => by simp only [List.mem_cons, List.not_mem_nil, or_false] at hq; rcases hq with rfl | rfl <;> assumption)) rfl ?_
        refine wg_aload_n dX8_all_84 rfl (Nat.succ_ne_zero _) ?_
        refine wg_getRe dX8_all_85 (fl_X8_69 rfl) rfl rfl (x1 hS 9 (r := 87) (Nat.le_of_ble_eq_true rfl) nofun nofun rfl) ?_
        refine wg_iload_n dX8_all_88 rfl ?_
        refine wg_callV (I' := mX3_ribbonInAll) (ci := 3) (np := 1) (d' := d) (q := 87) (as := [vI a1]) (st := []) dX8_all_89 lk_X8_246 ci_X3_ribbonInAll rfl (Nat.le_of_ble_eq_true rfl) rfl rfl (Nat.le_of_ble_eq_true rfl) rfl (Nat.le_refl _) ⟨Nat.le_refl _, Nat.le_refl _⟩ h (fun v M9 h => ?_)
        obtain ⟨r10, rfl, hS, h⟩ := h
        exact wp_iret rfl dX8_all_92 ⟨Nat.le_refl _, Nat.le_refl _⟩ h
      · replace h := h.2 c8
        refine wg_bipush dX8_all_37 qbipush_m4 ?_
        exact wp_iret rfl dX8_all_39 ⟨Nat.le_refl _, Nat.le_refl _⟩ h
    · replace h := h.2 c4
      refine wg_iconst dX8_all_17 qiconst_m1 ?_
      exact wp_iret rfl dX8_all_18 ⟨Nat.le_refl _, Nat.le_refl _⟩ h
set_option maxRecDepth 100000 in
theorem bX8_more_0 {G : GG} {d : Nat} {M : MM} {Q : Option AV → MM → Prop} (a1 : Int) (hS : ShX M) (h :
(a1 < 1 →
(Q (some (vI (-1))) M)) ∧
(¬ (a1 < 1) →
((a1 ≤ 90 →
(Ok G mX5_gone d 0 0 [vR 35] M (fun v M3 => ∃ r4 : Int, v = some (vI r4) ∧ ShX M3 ∧ 
(Ok G mX6_thereBesides d 0 0 [vR 30, vI r4] M3 (fun v M5 => ∃ r6 : Int, v = some (vI r6) ∧ ShX M5 ∧ 
(Ok G mX3_mostBound d 0 0 [vR 87, vI a1, vI r6] M5 (fun v M7 => ∃ r8 : Int, v = some (vI r8) ∧ ShX M7 ∧ 
(Q (some (vI r8)) M7)))))))) ∧
(¬ (a1 ≤ 90) →
(Q (some (vI (-1))) M))))) :
  Wp G mX8_more (d + 1) 0 0 0 [some (vR 1), some (vI a1)] [] M 0 0 Q := by
  refine wg_iload_n dX8_more_0 rfl ?_
  refine wg_iconst dX8_more_1 qiconst_1 ?_
  refine wg_icmp_lt dX8_more_2 rfl (fun c1 => ?_) (fun c1 => ?_)
  · replace h := h.1 c1
    refine wg_iconst dX8_more_11 qiconst_m1 ?_
    exact wp_iret rfl dX8_more_12 ⟨Nat.le_refl _, Nat.le_refl _⟩ h
  · replace h := h.2 c1
    refine wg_iload_n dX8_more_5 rfl ?_
    refine wg_bipush dX8_more_6 qbipush_90 ?_
    refine wg_icmp_le dX8_more_8 rfl (fun c2 => ?_) (fun c2 => ?_)
    · replace h := h.1 c2
      refine wg_aload_n dX8_more_13 rfl (Nat.succ_ne_zero _) ?_
      refine wg_getRe dX8_more_14 (fl_X8_69 rfl) rfl rfl (x1 hS 9 (r := 87) (Nat.le_of_ble_eq_true rfl) nofun nofun rfl) ?_
      refine wg_iload_n dX8_more_17 rfl ?_
      refine wg_aload_n dX8_more_18 rfl (Nat.succ_ne_zero _) ?_
      refine wg_getRe dX8_more_19 (fl_X8_38 rfl) rfl rfl (x1 hS 4 (r := 30) (Nat.le_of_ble_eq_true rfl) nofun nofun rfl) ?_
      refine wg_aload_n dX8_more_22 rfl (Nat.succ_ne_zero _) ?_
      refine wg_getRe dX8_more_23 (fl_X8_45 rfl) rfl rfl (x1 hS 5 (r := 35) (Nat.le_of_ble_eq_true rfl) nofun nofun rfl) ?_
      refine wg_callV (I' := mX5_gone) (ci := 5) (np := 0) (d' := d) (q := 35) (as := []) (st := [vR 30, vI a1, vR 87]) dX8_more_26 lk_X8_188 ci_X5_gone rfl (Nat.le_of_ble_eq_true rfl) rfl rfl (Nat.le_of_ble_eq_true rfl) rfl (Nat.le_refl _) ⟨Nat.le_refl _, Nat.le_refl _⟩ h (fun v M3 h => ?_)
      obtain ⟨r4, rfl, hS, h⟩ := h
      refine wg_callV (I' := mX6_thereBesides) (ci := 6) (np := 1) (d' := d) (q := 30) (as := [vI r4]) (st := [vI a1, vR 87]) dX8_more_29 lk_X8_191 ci_X6_thereBesides rfl (Nat.le_of_ble_eq_true rfl) rfl rfl (Nat.le_of_ble_eq_true rfl) rfl (Nat.le_refl _) ⟨Nat.le_refl _, Nat.le_refl _⟩ h (fun v M5 h => ?_)
      obtain ⟨r6, rfl, hS, h⟩ := h
      refine wg_callV (I' := mX3_mostBound) (ci := 3) (np := 2) (d' := d) (q := 87) (as := [vI a1, vI r6]) (st := []) dX8_more_32 lk_X8_249 ci_X3_mostBound rfl (Nat.le_of_ble_eq_true rfl) rfl rfl (Nat.le_of_ble_eq_true rfl) rfl (Nat.le_refl _) ⟨Nat.le_refl _, Nat.le_refl _⟩ h (fun v M7 h => ?_)
      obtain ⟨r8, rfl, hS, h⟩ := h
      exact wp_iret rfl dX8_more_35 ⟨Nat.le_refl _, Nat.le_refl _⟩ h
    · replace h := h.2 c2
      refine wg_iconst dX8_more_11 qiconst_m1 ?_
      exact wp_iret rfl dX8_more_12 ⟨Nat.le_refl _, Nat.le_refl _⟩ h
set_option maxRecDepth 100000 in
theorem bX8_worst_0 {G : GG} {d : Nat} {M : MM} {Q : Option AV → MM → Prop} (a1 : Int) (hS : ShX M) (h :
(a1 < 0 →
(Q (some (vI (-1))) M)) ∧
(¬ (a1 < 0) →
((a1 ≤ 1 →
(Ok G mX5_gone d 0 0 [vR 35] M (fun v M3 => ∃ r4 : Int, v = some (vI r4) ∧ ShX M3 ∧ 
(Ok G mX6_thereBesides d 0 0 [vR 30, vI r4] M3 (fun v M5 => ∃ r6 : Int, v = some (vI r6) ∧ ShX M5 ∧ 
(Wp G mX8_worst (d + 1) 0 0 36 [some (vR 1), some (vI a1), some (vI r6), some (vI (-4)), some (vI (-4)), some (vI 0), none] [] M5 0 0 Q)))))) ∧
(¬ (a1 ≤ 1) →
(Q (some (vI (-1))) M))))) :
  Wp G mX8_worst (d + 1) 0 0 0 [some (vR 1), some (vI a1), none, none, none, none, none] [] M 0 0 Q := by
  refine wg_iload_n dX8_worst_0 rfl ?_
  refine wg_if_lt dX8_worst_1 rfl (fun c1 => ?_) (fun c1 => ?_)
  · replace h := h.1 c1
    refine wg_iconst dX8_worst_9 qiconst_m1 ?_
    exact wp_iret rfl dX8_worst_10 ⟨Nat.le_refl _, Nat.le_refl _⟩ h
  · replace h := h.2 c1
    refine wg_iload_n dX8_worst_4 rfl ?_
    refine wg_iconst dX8_worst_5 qiconst_1 ?_
    refine wg_icmp_le dX8_worst_6 rfl (fun c2 => ?_) (fun c2 => ?_)
    · replace h := h.1 c2
      refine wg_aload_n dX8_worst_11 rfl (Nat.succ_ne_zero _) ?_
      refine wg_getRe dX8_worst_12 (fl_X8_38 rfl) rfl rfl (x1 hS 4 (r := 30) (Nat.le_of_ble_eq_true rfl) nofun nofun rfl) ?_
      refine wg_aload_n dX8_worst_15 rfl (Nat.succ_ne_zero _) ?_
      refine wg_getRe dX8_worst_16 (fl_X8_45 rfl) rfl rfl (x1 hS 5 (r := 35) (Nat.le_of_ble_eq_true rfl) nofun nofun rfl) ?_
      refine wg_callV (I' := mX5_gone) (ci := 5) (np := 0) (d' := d) (q := 35) (as := []) (st := [vR 30]) dX8_worst_19 lk_X8_188 ci_X5_gone rfl (Nat.le_of_ble_eq_true rfl) rfl rfl (Nat.le_of_ble_eq_true rfl) rfl (Nat.le_refl _) ⟨Nat.le_refl _, Nat.le_refl _⟩ h (fun v M3 h => ?_)
      obtain ⟨r4, rfl, hS, h⟩ := h
      refine wg_callV (I' := mX6_thereBesides) (ci := 6) (np := 1) (d' := d) (q := 30) (as := [vI r4]) (st := []) dX8_worst_22 lk_X8_191 ci_X6_thereBesides rfl (Nat.le_of_ble_eq_true rfl) rfl rfl (Nat.le_of_ble_eq_true rfl) rfl (Nat.le_refl _) ⟨Nat.le_refl _, Nat.le_refl _⟩ h (fun v M5 h => ?_)
      obtain ⟨r6, rfl, hS, h⟩ := h
      refine wg_istore_n (L' := [some (vR 1), some (vI a1), some (vI r6), none, none, none, none]) dX8_worst_25 (Nat.le_of_ble_eq_true rfl) rfl ?_
      refine wg_bipush dX8_worst_26 qbipush_m4 ?_
      refine wg_istore_n (L' := [some (vR 1), some (vI a1), some (vI r6), some (vI (-4)), none, none, none]) dX8_worst_28 (Nat.le_of_ble_eq_true rfl) rfl ?_
      refine wg_bipush dX8_worst_29 qbipush_m4 ?_
      refine wg_istore (L' := [some (vR 1), some (vI a1), some (vI r6), some (vI (-4)), some (vI (-4)), none, none]) dX8_worst_31 (Nat.le_of_ble_eq_true rfl) rfl ?_
      refine wg_iconst dX8_worst_33 qiconst_0 ?_
      refine wg_istore (L' := [some (vR 1), some (vI a1), some (vI r6), some (vI (-4)), some (vI (-4)), some (vI 0), none]) dX8_worst_34 (Nat.le_of_ble_eq_true rfl) rfl ?_
      exact h
    · replace h := h.2 c2
      refine wg_iconst dX8_worst_9 qiconst_m1 ?_
      exact wp_iret rfl dX8_worst_10 ⟨Nat.le_refl _, Nat.le_refl _⟩ h
set_option maxRecDepth 100000 in
theorem bX8_worst_36 {G : GG} {d : Nat} {M : MM} {Q : Option AV → MM → Prop} (a1 : Int) (s2 : Int) (s3 : Int) (s4 : Int) (s5 : Int) (hS : ShX M) (h :
((gI M (gR M 1 2) 0) ≤ s5 →
(Q (some (vI (if a1 = 0 then (s3 : Int) else s4))) M)) ∧
(¬ ((gI M (gR M 1 2) 0) ≤ s5) →
(((iandv (ishrv s2 s5) 1) ≠ 0 →
(Ok G mX6_followersOf d 0 0 [vR 30, vI (ishlv 1 s5)] M (fun v M6 => ∃ r7 : Int, v = some (vI r7) ∧ ShX M6 ∧ 
(Ok G mJ6_bitCount_0f7a4 d 0 0 [vI (iandv (iandv r7 s2) (ixorv (ishlv 1 s5) (-1)))] M6 (fun v M8 => ∃ r9 : Int, v = some (vI r9) ∧ ShX M8 ∧ 
((r9 ≤ s4 →
(R32 (s5 + 1) ∧
(Wp G mX8_worst (d + 1) 0 0 36 [some (vR 1), some (vI a1), some (vI s2), some (vI s3), some (vI s4), some (vI (s5 + 1)), none] [] M8 0 0 Q))) ∧
(¬ (r9 ≤ s4) →
(R32 (s5 + 1) ∧
(Wp G mX8_worst (d + 1) 0 0 36 [some (vR 1), some (vI a1), some (vI s2), some (vI s5), some (vI r9), some (vI (s5 + 1)), none] [] M8 0 0 Q))))))))) ∧
((iandv (ishrv s2 s5) 1) = 0 →
(R32 (s5 + 1) ∧
(Wp G mX8_worst (d + 1) 0 0 36 [some (vR 1), some (vI a1), some (vI s2), some (vI s3), some (vI s4), some (vI (s5 + 1)), none] [] M 0 0 Q)))))) :
  Wp G mX8_worst (d + 1) 0 0 36 [some (vR 1), some (vI a1), some (vI s2), some (vI s3), some (vI s4), some (vI s5), none] [] M 0 0 Q := by
  refine wg_iload dX8_worst_36 rfl ?_
  refine wg_aload_n dX8_worst_38 rfl (Nat.succ_ne_zero _) ?_
  have hq1 := (xlaid hS)
  refine wg_getRe dX8_worst_39 (fl_X8_28 rfl) rfl rfl rfl ?_
  refine wg_getI dX8_worst_42 (fl_X8_110 rfl) rfl hq1 ?_
  refine wg_icmp_ge dX8_worst_45 rfl (fun c2 => ?_) (fun c2 => ?_)
  · replace h := h.1 c2
    refine wg_iload_n dX8_worst_105 rfl ?_
    have hJ4 : Wp G mX8_worst (d + 1) 0 0 115 [some (vR 1), some (vI a1), some (vI s2), some (vI s3), some (vI s4), some (vI s5), none] [vI (if a1 = 0 then (s3 : Int) else s4)] M 0 0 Q := by
      exact wp_iret rfl dX8_worst_115 ⟨Nat.le_refl _, Nat.le_refl _⟩ h
    refine wg_if_ne dX8_worst_106 rfl (fun c3 => ?_) (fun c3 => ?_)
    · rw [show (if a1 = 0 then (s3 : Int) else s4) = s4 from if_neg c3] at hJ4
      refine wg_iload dX8_worst_113 rfl ?_
      exact hJ4
    · rw [show (if a1 = 0 then (s3 : Int) else s4) = s3 from if_pos c3] at hJ4
      refine wg_iload_n dX8_worst_109 rfl ?_
      refine wg_goto dX8_worst_110 rfl ?_
      exact hJ4
  · replace h := h.2 c2
    refine wg_iload_n dX8_worst_48 rfl ?_
    refine wg_iload dX8_worst_49 rfl ?_
    refine wg_ishr dX8_worst_51 ?_
    refine wg_iconst dX8_worst_52 qiconst_1 ?_
    refine wg_iand dX8_worst_53 ?_
    refine wg_if_ne dX8_worst_54 rfl (fun c5 => ?_) (fun c5 => ?_)
    · replace h := h.1 c5
      refine wg_aload_n dX8_worst_60 rfl (Nat.succ_ne_zero _) ?_
      refine wg_getRe dX8_worst_61 (fl_X8_38 rfl) rfl rfl (x1 hS 4 (r := 30) (Nat.le_of_ble_eq_true rfl) nofun nofun rfl) ?_
      refine wg_iconst dX8_worst_64 qiconst_1 ?_
      refine wg_iload dX8_worst_65 rfl ?_
      refine wg_ishl dX8_worst_67 ?_
      refine wg_callV (I' := mX6_followersOf) (ci := 6) (np := 1) (d' := d) (q := 30) (as := [vI (ishlv 1 s5)]) (st := []) dX8_worst_68 lk_X8_181 ci_X6_followersOf rfl (Nat.le_of_ble_eq_true rfl) rfl rfl (Nat.le_of_ble_eq_true rfl) rfl (Nat.le_refl _) ⟨Nat.le_refl _, Nat.le_refl _⟩ h (fun v M6 h => ?_)
      obtain ⟨r7, rfl, hS, h⟩ := h
      refine wg_iload_n dX8_worst_71 rfl ?_
      refine wg_iand dX8_worst_72 ?_
      refine wg_iconst dX8_worst_73 qiconst_1 ?_
      refine wg_iload dX8_worst_74 rfl ?_
      refine wg_ishl dX8_worst_76 ?_
      refine wg_iconst dX8_worst_77 qiconst_m1 ?_
      refine wg_ixor dX8_worst_78 ?_
      refine wg_iand dX8_worst_79 ?_
      refine wg_callS (I' := mJ6_bitCount_0f7a4) (np := 1) (d' := d) (as := [vI (iandv (iandv r7 s2) (ixorv (ishlv 1 s5) (-1)))]) (st := []) dX8_worst_80 lk_X8_202 ci_J6_bitCount_0f7a4 rfl rfl (Nat.le_of_ble_eq_true rfl) (Nat.le_refl _) ⟨Nat.le_refl _, Nat.le_refl _⟩ h (fun v M8 h => ?_)
      obtain ⟨r9, rfl, hS, h⟩ := h
      refine wg_istore (L' := [some (vR 1), some (vI a1), some (vI s2), some (vI s3), some (vI s4), some (vI s5), some (vI r9)]) dX8_worst_83 (Nat.le_of_ble_eq_true rfl) rfl ?_
      refine wg_iload dX8_worst_85 rfl ?_
      refine wg_iload dX8_worst_87 rfl ?_
      refine wg_icmp_le dX8_worst_89 rfl (fun c10 => ?_) (fun c10 => ?_)
      · replace h := h.1 c10
        obtain ⟨o, h⟩ := h
        refine wg_iinc (L' := [some (vR 1), some (vI a1), some (vI s2), some (vI s3), some (vI s4), some (vI (s5 + 1)), some (vI r9)]) dX8_worst_99 (Nat.le_of_ble_eq_true rfl) rfl rfl o ?_
        refine wg_goto dX8_worst_102 rfl ?_
        refine wg_weak [true, true, true, true, true, true, false] rfl ?_
        exact h
      · replace h := h.2 c10
        refine wg_iload dX8_worst_92 rfl ?_
        refine wg_istore_n (L' := [some (vR 1), some (vI a1), some (vI s2), some (vI s5), some (vI s4), some (vI s5), some (vI r9)]) dX8_worst_94 (Nat.le_of_ble_eq_true rfl) rfl ?_
        refine wg_iload dX8_worst_95 rfl ?_
        refine wg_istore (L' := [some (vR 1), some (vI a1), some (vI s2), some (vI s5), some (vI r9), some (vI s5), some (vI r9)]) dX8_worst_97 (Nat.le_of_ble_eq_true rfl) rfl ?_
        obtain ⟨o, h⟩ := h
        refine wg_iinc (L' := [some (vR 1), some (vI a1), some (vI s2), some (vI s5), some (vI r9), some (vI (s5 + 1)), some (vI r9)]) dX8_worst_99 (Nat.le_of_ble_eq_true rfl) rfl rfl o ?_
        refine wg_goto dX8_worst_102 rfl ?_
        refine wg_weak [true, true, true, true, true, true, false] rfl ?_
        exact h
    · replace h := h.2 c5
      refine wg_goto dX8_worst_57 rfl ?_
      obtain ⟨o, h⟩ := h
      refine wg_iinc (L' := [some (vR 1), some (vI a1), some (vI s2), some (vI s3), some (vI s4), some (vI (s5 + 1)), none]) dX8_worst_99 (Nat.le_of_ble_eq_true rfl) rfl rfl o ?_
      refine wg_goto dX8_worst_102 rfl ?_
      exact h
set_option maxRecDepth 100000 in
theorem bX8_back_0 {G : GG} {d : Nat} {M : MM} {Q : Option AV → MM → Prop} (a1 : Int) (hS : ShX M) (h :
Ok G mX8_isThing d 0 0 [vR 1, vI a1] M (fun v M1 => ∃ r2 : Int, v = some (vI r2) ∧ ShX M1 ∧ 
((r2 ≠ 0 →
(Ok G mX5_gone d 0 0 [vR 35] M1 (fun v M4 => ∃ r5 : Int, v = some (vI r5) ∧ ShX M4 ∧ 
(Wp G mX8_back (d + 1) 0 0 23 [some (vR 1), some (vI a1), some (vI r5), some (vI 0), some (vI 0), none] [] M4 0 0 Q)))) ∧
(r2 = 0 →
(Q (some (vI (-1))) M1))))) :
  Wp G mX8_back (d + 1) 0 0 0 [some (vR 1), some (vI a1), none, none, none, none] [] M 0 0 Q := by
  refine wg_aload_n dX8_back_0 rfl (Nat.succ_ne_zero _) ?_
  refine wg_iload_n dX8_back_1 rfl ?_
  refine wg_callV (I' := mX8_isThing) (ci := 8) (np := 1) (d' := d) (q := 1) (as := [vI a1]) (st := []) dX8_back_2 lk_X8_123 ci_X8_isThing rfl (Nat.le_of_ble_eq_true rfl) rfl rfl (Nat.le_of_ble_eq_true rfl) rfl (Nat.le_refl _) ⟨Nat.le_refl _, Nat.le_refl _⟩ h (fun v M1 h => ?_)
  obtain ⟨r2, rfl, hS, h⟩ := h
  refine wg_if_ne dX8_back_5 rfl (fun c3 => ?_) (fun c3 => ?_)
  · replace h := h.1 c3
    refine wg_aload_n dX8_back_10 rfl (Nat.succ_ne_zero _) ?_
    refine wg_getRe dX8_back_11 (fl_X8_45 rfl) rfl rfl (x1 hS 5 (r := 35) (Nat.le_of_ble_eq_true rfl) nofun nofun rfl) ?_
    refine wg_callV (I' := mX5_gone) (ci := 5) (np := 0) (d' := d) (q := 35) (as := []) (st := []) dX8_back_14 lk_X8_188 ci_X5_gone rfl (Nat.le_of_ble_eq_true rfl) rfl rfl (Nat.le_of_ble_eq_true rfl) rfl (Nat.le_refl _) ⟨Nat.le_refl _, Nat.le_refl _⟩ h (fun v M4 h => ?_)
    obtain ⟨r5, rfl, hS, h⟩ := h
    refine wg_istore_n (L' := [some (vR 1), some (vI a1), some (vI r5), none, none, none]) dX8_back_17 (Nat.le_of_ble_eq_true rfl) rfl ?_
    refine wg_iconst dX8_back_18 qiconst_0 ?_
    refine wg_istore_n (L' := [some (vR 1), some (vI a1), some (vI r5), some (vI 0), none, none]) dX8_back_19 (Nat.le_of_ble_eq_true rfl) rfl ?_
    refine wg_iconst dX8_back_20 qiconst_0 ?_
    refine wg_istore (L' := [some (vR 1), some (vI a1), some (vI r5), some (vI 0), some (vI 0), none]) dX8_back_21 (Nat.le_of_ble_eq_true rfl) rfl ?_
    exact h
  · replace h := h.2 c3
    refine wg_iconst dX8_back_8 qiconst_m1 ?_
    exact wp_iret rfl dX8_back_9 ⟨Nat.le_refl _, Nat.le_refl _⟩ h
set_option maxRecDepth 100000 in
theorem bX8_back_23 {G : GG} {d : Nat} {M : MM} {Q : Option AV → MM → Prop} (a1 : Int) (s2 : Int) (s3 : Int) (s4 : Int) (hS : ShX M) (h :
((gI M (gR M 1 2) 0) ≤ s4 →
(Q (some (vI s3)) M)) ∧
(¬ ((gI M (gR M 1 2) 0) ≤ s4) →
(((if (iandv (ishrv s2 s4) 1) = 1 then (1 : Int) else 0) = 0 →
(R32 (s4 + 1) ∧
(Wp G mX8_back (d + 1) 0 0 23 [some (vR 1), some (vI a1), some (vI s2), some (vI s3), some (vI (s4 + 1)), none] [] M 0 0 Q))) ∧
(¬ ((if (iandv (ishrv s2 s4) 1) = 1 then (1 : Int) else 0) = 0) →
(Ok G mX6_followersOf d 0 0 [vR 30, vI (ishlv 1 s4)] M (fun v M5 => ∃ r6 : Int, v = some (vI r6) ∧ ShX M5 ∧ 
(((iandv (ishrv r6 a1) 1) ≠ 1 →
(R32 (s4 + 1) ∧
(Wp G mX8_back (d + 1) 0 0 23 [some (vR 1), some (vI a1), some (vI s2), some (vI s3), some (vI (s4 + 1)), none] [] M5 0 0 Q))) ∧
((iandv (ishrv r6 a1) 1) = 1 →
(R32 (s4 + 1) ∧
(Wp G mX8_back (d + 1) 0 0 23 [some (vR 1), some (vI a1), some (vI s2), some (vI (iorv s3 (ishlv 1 s4))), some (vI (s4 + 1)), none] [] M5 0 0 Q)))))))))) :
  Wp G mX8_back (d + 1) 0 0 23 [some (vR 1), some (vI a1), some (vI s2), some (vI s3), some (vI s4), none] [] M 0 0 Q := by
  refine wg_iload dX8_back_23 rfl ?_
  refine wg_aload_n dX8_back_25 rfl (Nat.succ_ne_zero _) ?_
  have hq1 := (xlaid hS)
  refine wg_getRe dX8_back_26 (fl_X8_28 rfl) rfl rfl rfl ?_
  refine wg_getI dX8_back_29 (fl_X8_110 rfl) rfl hq1 ?_
  refine wg_icmp_ge dX8_back_32 rfl (fun c2 => ?_) (fun c2 => ?_)
  · replace h := h.1 c2
    refine wg_iload_n dX8_back_89 rfl ?_
    exact wp_iret rfl dX8_back_90 ⟨Nat.le_refl _, Nat.le_refl _⟩ h
  · replace h := h.2 c2
    refine wg_iload_n dX8_back_35 rfl ?_
    refine wg_iload dX8_back_36 rfl ?_
    refine wg_ishr dX8_back_38 ?_
    refine wg_iconst dX8_back_39 qiconst_1 ?_
    refine wg_iand dX8_back_40 ?_
    refine wg_iconst dX8_back_41 qiconst_1 ?_
    have hJ8 : Wp G mX8_back (d + 1) 0 0 50 [some (vR 1), some (vI a1), some (vI s2), some (vI s3), some (vI s4), none] [vI (if (iandv (ishrv s2 s4) 1) = 1 then (1 : Int) else 0)] M 0 0 Q := by
      refine wg_istore (L' := [some (vR 1), some (vI a1), some (vI s2), some (vI s3), some (vI s4), some (vI (if (iandv (ishrv s2 s4) 1) = 1 then (1 : Int) else 0))]) dX8_back_50 (Nat.le_of_ble_eq_true rfl) rfl ?_
      refine wg_iload dX8_back_52 rfl ?_
      refine wg_if_eq dX8_back_54 rfl (fun c4 => ?_) (fun c4 => ?_)
      · replace h := h.1 c4
        obtain ⟨o, h⟩ := h
        refine wg_iinc (L' := [some (vR 1), some (vI a1), some (vI s2), some (vI s3), some (vI (s4 + 1)), some (vI (if (iandv (ishrv s2 s4) 1) = 1 then (1 : Int) else 0))]) dX8_back_83 (Nat.le_of_ble_eq_true rfl) rfl rfl o ?_
        refine wg_goto dX8_back_86 rfl ?_
        refine wg_weak [true, true, true, true, true, false] rfl ?_
        exact h
      · replace h := h.2 c4
        refine wg_aload_n dX8_back_57 rfl (Nat.succ_ne_zero _) ?_
        refine wg_getRe dX8_back_58 (fl_X8_38 rfl) rfl rfl (x1 hS 4 (r := 30) (Nat.le_of_ble_eq_true rfl) nofun nofun rfl) ?_
        refine wg_iconst dX8_back_61 qiconst_1 ?_
        refine wg_iload dX8_back_62 rfl ?_
        refine wg_ishl dX8_back_64 ?_
        refine wg_callV (I' := mX6_followersOf) (ci := 6) (np := 1) (d' := d) (q := 30) (as := [vI (ishlv 1 s4)]) (st := []) dX8_back_65 lk_X8_181 ci_X6_followersOf rfl (Nat.le_of_ble_eq_true rfl) rfl rfl (Nat.le_of_ble_eq_true rfl) rfl (Nat.le_refl _) ⟨Nat.le_refl _, Nat.le_refl _⟩ h (fun v M5 h => ?_)
        obtain ⟨r6, rfl, hS, h⟩ := h
        refine wg_iload_n dX8_back_68 rfl ?_
        refine wg_ishr dX8_back_69 ?_
        refine wg_iconst dX8_back_70 qiconst_1 ?_
        refine wg_iand dX8_back_71 ?_
        refine wg_iconst dX8_back_72 qiconst_1 ?_
        refine wg_icmp_ne dX8_back_73 rfl (fun c7 => ?_) (fun c7 => ?_)
        · replace h := h.1 c7
          obtain ⟨o, h⟩ := h
          refine wg_iinc (L' := [some (vR 1), some (vI a1), some (vI s2), some (vI s3), some (vI (s4 + 1)), some (vI (if (iandv (ishrv s2 s4) 1) = 1 then (1 : Int) else 0))]) dX8_back_83 (Nat.le_of_ble_eq_true rfl) rfl rfl o ?_
          refine wg_goto dX8_back_86 rfl ?_
          refine wg_weak [true, true, true, true, true, false] rfl ?_
          exact h
        · replace h := h.2 c7
          refine wg_iload_n dX8_back_76 rfl ?_
          refine wg_iconst dX8_back_77 qiconst_1 ?_
          refine wg_iload dX8_back_78 rfl ?_
          refine wg_ishl dX8_back_80 ?_
          refine wg_ior dX8_back_81 ?_
          refine wg_istore_n (L' := [some (vR 1), some (vI a1), some (vI s2), some (vI (iorv s3 (ishlv 1 s4))), some (vI s4), some (vI (if (iandv (ishrv s2 s4) 1) = 1 then (1 : Int) else 0))]) dX8_back_82 (Nat.le_of_ble_eq_true rfl) rfl ?_
          obtain ⟨o, h⟩ := h
          refine wg_iinc (L' := [some (vR 1), some (vI a1), some (vI s2), some (vI (iorv s3 (ishlv 1 s4))), some (vI (s4 + 1)), some (vI (if (iandv (ishrv s2 s4) 1) = 1 then (1 : Int) else 0))]) dX8_back_83 (Nat.le_of_ble_eq_true rfl) rfl rfl o ?_
          refine wg_goto dX8_back_86 rfl ?_
          refine wg_weak [true, true, true, true, true, false] rfl ?_
          exact h
    refine wg_icmp_ne dX8_back_42 rfl (fun c3 => ?_) (fun c3 => ?_)
    · rw [show (if (iandv (ishrv s2 s4) 1) = 1 then (1 : Int) else 0) = 0 from if_neg c3] at hJ8
      refine wg_iconst dX8_back_49 qiconst_0 ?_
      exact hJ8
    · rw [show (if (iandv (ishrv s2 s4) 1) = 1 then (1 : Int) else 0) = 1 from if_pos c3] at hJ8
      refine wg_iconst dX8_back_45 qiconst_1 ?_
      refine wg_goto dX8_back_46 rfl ?_
      exact hJ8
set_option maxRecDepth 100000 in
theorem bX8_missing_0 {G : GG} {d : Nat} {M : MM} {Q : Option AV → MM → Prop} (a1 : Int) (a2 : Int) (a3 : Int) (hS : ShX M) (h :
(a1 < 0 →
(Q (some (vI (-1))) M)) ∧
(¬ (a1 < 0) →
(((if (ishlv 1 (gI M (gR M 1 2) 2)) ≤ a1 then (0 : Int) else 1) = 0 →
(Q (some (vI (-1))) M)) ∧
(¬ ((if (ishlv 1 (gI M (gR M 1 2) 2)) ≤ a1 then (0 : Int) else 1) = 0) →
((a2 < 0 →
(Q (some (vI (-1))) M)) ∧
(¬ (a2 < 0) →
((90 < a2 →
(Q (some (vI (-1))) M)) ∧
(¬ (90 < a2) →
((a3 < 0 →
(Q (some (vI (-1))) M)) ∧
(¬ (a3 < 0) →
((a3 ≤ 2 →
(Wp G mX8_missing (d + 1) 0 0 63 [some (vR 1), some (vI a1), some (vI a2), some (vI a3), none, some (vI 0), some (vI (-4)), some (vI (-1)), some (vI 0)] [] M 0 0 Q)) ∧
(¬ (a3 ≤ 2) →
(Q (some (vI (-1))) M))))))))))))) :
  Wp G mX8_missing (d + 1) 0 0 0 [some (vR 1), some (vI a1), some (vI a2), some (vI a3), none, none, none, none, none] [] M 0 0 Q := by
  refine wg_iload_n dX8_missing_0 rfl ?_
  refine wg_if_lt dX8_missing_1 rfl (fun c2 => ?_) (fun c2 => ?_)
  · replace h := h.1 c2
    refine wg_iconst dX8_missing_21 qiconst_0 ?_
    refine wg_istore (L' := [some (vR 1), some (vI a1), some (vI a2), some (vI a3), some (vI 0), none, none, none, none]) dX8_missing_22 (Nat.le_of_ble_eq_true rfl) rfl ?_
    refine wg_iload dX8_missing_24 rfl ?_
    refine wg_if_eq dX8_missing_26 rfl (fun _ => ?_) (fun c => absurd c (by decide))
    refine wg_iconst dX8_missing_48 qiconst_m1 ?_
    exact wp_iret rfl dX8_missing_49 ⟨Nat.le_refl _, Nat.le_refl _⟩ h
  · replace h := h.2 c2
    refine wg_iload_n dX8_missing_4 rfl ?_
    refine wg_iconst dX8_missing_5 qiconst_1 ?_
    refine wg_aload_n dX8_missing_6 rfl (Nat.succ_ne_zero _) ?_
    have hq3 := (xlaid hS)
    refine wg_getRe dX8_missing_7 (fl_X8_28 rfl) rfl rfl rfl ?_
    refine wg_getI dX8_missing_10 (fl_X8_139 rfl) rfl hq3 ?_
    refine wg_ishl dX8_missing_13 ?_
    have hJ10 : Wp G mX8_missing (d + 1) 0 0 22 [some (vR 1), some (vI a1), some (vI a2), some (vI a3), none, none, none, none, none] [vI (if (ishlv 1 (gI M (gR M 1 2) 2)) ≤ a1 then (0 : Int) else 1)] M 0 0 Q := by
      refine wg_istore (L' := [some (vR 1), some (vI a1), some (vI a2), some (vI a3), some (vI (if (ishlv 1 (gI M (gR M 1 2) 2)) ≤ a1 then (0 : Int) else 1)), none, none, none, none]) dX8_missing_22 (Nat.le_of_ble_eq_true rfl) rfl ?_
      refine wg_iload dX8_missing_24 rfl ?_
      refine wg_if_eq dX8_missing_26 rfl (fun c5 => ?_) (fun c5 => ?_)
      · replace h := h.1 c5
        refine wg_iconst dX8_missing_48 qiconst_m1 ?_
        exact wp_iret rfl dX8_missing_49 ⟨Nat.le_refl _, Nat.le_refl _⟩ h
      · replace h := h.2 c5
        refine wg_iload_n dX8_missing_29 rfl ?_
        refine wg_if_lt dX8_missing_30 rfl (fun c6 => ?_) (fun c6 => ?_)
        · replace h := h.1 c6
          refine wg_iconst dX8_missing_48 qiconst_m1 ?_
          exact wp_iret rfl dX8_missing_49 ⟨Nat.le_refl _, Nat.le_refl _⟩ h
        · replace h := h.2 c6
          refine wg_iload_n dX8_missing_33 rfl ?_
          refine wg_bipush dX8_missing_34 qbipush_90 ?_
          refine wg_icmp_gt dX8_missing_36 rfl (fun c7 => ?_) (fun c7 => ?_)
          · replace h := h.1 c7
            refine wg_iconst dX8_missing_48 qiconst_m1 ?_
            exact wp_iret rfl dX8_missing_49 ⟨Nat.le_refl _, Nat.le_refl _⟩ h
          · replace h := h.2 c7
            refine wg_iload_n dX8_missing_39 rfl ?_
            refine wg_if_lt dX8_missing_40 rfl (fun c8 => ?_) (fun c8 => ?_)
            · replace h := h.1 c8
              refine wg_iconst dX8_missing_48 qiconst_m1 ?_
              exact wp_iret rfl dX8_missing_49 ⟨Nat.le_refl _, Nat.le_refl _⟩ h
            · replace h := h.2 c8
              refine wg_iload_n dX8_missing_43 rfl ?_
              refine wg_iconst dX8_missing_44 qiconst_2 ?_
              refine wg_icmp_le dX8_missing_45 rfl (fun c9 => ?_) (fun c9 => ?_)
              · replace h := h.1 c9
                refine wg_iconst dX8_missing_50 qiconst_0 ?_
                refine wg_istore (L' := [some (vR 1), some (vI a1), some (vI a2), some (vI a3), some (vI (if (ishlv 1 (gI M (gR M 1 2) 2)) ≤ a1 then (0 : Int) else 1)), some (vI 0), none, none, none]) dX8_missing_51 (Nat.le_of_ble_eq_true rfl) rfl ?_
                refine wg_bipush dX8_missing_53 qbipush_m4 ?_
                refine wg_istore (L' := [some (vR 1), some (vI a1), some (vI a2), some (vI a3), some (vI (if (ishlv 1 (gI M (gR M 1 2) 2)) ≤ a1 then (0 : Int) else 1)), some (vI 0), some (vI (-4)), none, none]) dX8_missing_55 (Nat.le_of_ble_eq_true rfl) rfl ?_
                refine wg_iconst dX8_missing_57 qiconst_m1 ?_
                refine wg_istore (L' := [some (vR 1), some (vI a1), some (vI a2), some (vI a3), some (vI (if (ishlv 1 (gI M (gR M 1 2) 2)) ≤ a1 then (0 : Int) else 1)), some (vI 0), some (vI (-4)), some (vI (-1)), none]) dX8_missing_58 (Nat.le_of_ble_eq_true rfl) rfl ?_
                refine wg_iconst dX8_missing_60 qiconst_0 ?_
                refine wg_istore (L' := [some (vR 1), some (vI a1), some (vI a2), some (vI a3), some (vI (if (ishlv 1 (gI M (gR M 1 2) 2)) ≤ a1 then (0 : Int) else 1)), some (vI 0), some (vI (-4)), some (vI (-1)), some (vI 0)]) dX8_missing_61 (Nat.le_of_ble_eq_true rfl) rfl ?_
                refine wg_weak [true, true, true, true, false, true, true, true, true] rfl ?_
                exact h
              · replace h := h.2 c9
                refine wg_iconst dX8_missing_48 qiconst_m1 ?_
                exact wp_iret rfl dX8_missing_49 ⟨Nat.le_refl _, Nat.le_refl _⟩ h
    refine wg_icmp_ge dX8_missing_14 rfl (fun c4 => ?_) (fun c4 => ?_)
    · rw [show (if (ishlv 1 (gI M (gR M 1 2) 2)) ≤ a1 then (0 : Int) else 1) = 0 from if_pos c4] at hJ10
      refine wg_iconst dX8_missing_21 qiconst_0 ?_
      exact hJ10
    · rw [show (if (ishlv 1 (gI M (gR M 1 2) 2)) ≤ a1 then (0 : Int) else 1) = 1 from if_neg c4] at hJ10
      refine wg_iconst dX8_missing_17 qiconst_1 ?_
      refine wg_goto dX8_missing_18 rfl ?_
      exact hJ10
set_option maxRecDepth 100000 in
theorem bX8_missing_63 {G : GG} {d : Nat} {M : MM} {Q : Option AV → MM → Prop} (a1 : Int) (a2 : Int) (a3 : Int) (s5 : Int) (s6 : Int) (s7 : Int) (s8 : Int) (hS : ShX M) (h :
((gI M 30 0) ≤ s8 →
((a3 ≠ 0 →
((s5 ≠ 0 →
(Q (some (vI (if a3 = 1 then (s6 : Int) else s7))) M)) ∧
(s5 = 0 →
(Q (some (vI (-4))) M)))) ∧
(a3 = 0 →
(Q (some (vI s5)) M)))) ∧
(¬ ((gI M 30 0) ≤ s8) →
(Ok G mX6_missersOf d 0 0 [vR 30, vI s8] M (fun v M6 => ∃ r7 : Int, v = some (vI r7) ∧ ShX M6 ∧ 
((r7 ≠ a1 →
(R32 (s8 + 1) ∧
(Wp G mX8_missing (d + 1) 0 0 63 [some (vR 1), some (vI a1), some (vI a2), some (vI a3), none, some (vI s5), some (vI s6), some (vI s7), some (vI (s8 + 1))] [] M6 0 0 Q))) ∧
(r7 = a1 →
(Ok G mX6_strengthOf d 0 0 [vR 30, vI s8] M6 (fun v M9 => ∃ r10 : Int, v = some (vI r10) ∧ ShX M9 ∧ 
((a2 ≤ r10 →
((s5 ≠ 0 →
(R32 (s5 + 1) ∧
(R32 (s8 + 1) ∧
(Wp G mX8_missing (d + 1) 0 0 63 [some (vR 1), some (vI a1), some (vI a2), some (vI a3), none, some (vI (s5 + 1)), some (vI s6), some (vI (iandv s7 s8)), some (vI (s8 + 1))] [] M9 0 0 Q)))) ∧
(s5 = 0 →
(R32 (s5 + 1) ∧
(R32 (s8 + 1) ∧
(Wp G mX8_missing (d + 1) 0 0 63 [some (vR 1), some (vI a1), some (vI a2), some (vI a3), none, some (vI (s5 + 1)), some (vI s8), some (vI (iandv s7 s8)), some (vI (s8 + 1))] [] M9 0 0 Q)))))) ∧
(¬ (a2 ≤ r10) →
(R32 (s8 + 1) ∧
(Wp G mX8_missing (d + 1) 0 0 63 [some (vR 1), some (vI a1), some (vI a2), some (vI a3), none, some (vI s5), some (vI s6), some (vI s7), some (vI (s8 + 1))] [] M9 0 0 Q)))))))))))) :
  Wp G mX8_missing (d + 1) 0 0 63 [some (vR 1), some (vI a1), some (vI a2), some (vI a3), none, some (vI s5), some (vI s6), some (vI s7), some (vI s8)] [] M 0 0 Q := by
  refine wg_iload dX8_missing_63 rfl ?_
  refine wg_aload_n dX8_missing_65 rfl (Nat.succ_ne_zero _) ?_
  refine wg_getRe dX8_missing_66 (fl_X8_38 rfl) rfl rfl (x1 hS 4 (r := 30) (Nat.le_of_ble_eq_true rfl) nofun nofun rfl) ?_
  refine wg_getI dX8_missing_69 (fl_X8_252 rfl) rfl rfl ?_
  refine wg_icmp_ge dX8_missing_72 rfl (fun c1 => ?_) (fun c1 => ?_)
  · replace h := h.1 c1
    refine wg_iload_n dX8_missing_129 rfl ?_
    refine wg_if_ne dX8_missing_130 rfl (fun c2 => ?_) (fun c2 => ?_)
    · replace h := h.1 c2
      refine wg_iload dX8_missing_136 rfl ?_
      refine wg_if_ne dX8_missing_138 rfl (fun c3 => ?_) (fun c3 => ?_)
      · replace h := h.1 c3
        refine wg_iload_n dX8_missing_144 rfl ?_
        refine wg_iconst dX8_missing_145 qiconst_1 ?_
        have hJ5 : Wp G mX8_missing (d + 1) 0 0 156 [some (vR 1), some (vI a1), some (vI a2), some (vI a3), none, some (vI s5), some (vI s6), some (vI s7), some (vI s8)] [vI (if a3 = 1 then (s6 : Int) else s7)] M 0 0 Q := by
          exact wp_iret rfl dX8_missing_156 ⟨Nat.le_refl _, Nat.le_refl _⟩ h
        refine wg_icmp_ne dX8_missing_146 rfl (fun c4 => ?_) (fun c4 => ?_)
        · rw [show (if a3 = 1 then (s6 : Int) else s7) = s7 from if_neg c4] at hJ5
          refine wg_iload dX8_missing_154 rfl ?_
          exact hJ5
        · rw [show (if a3 = 1 then (s6 : Int) else s7) = s6 from if_pos c4] at hJ5
          refine wg_iload dX8_missing_149 rfl ?_
          refine wg_goto dX8_missing_151 rfl ?_
          exact hJ5
      · replace h := h.2 c3
        refine wg_bipush dX8_missing_141 qbipush_m4 ?_
        exact wp_iret rfl dX8_missing_143 ⟨Nat.le_refl _, Nat.le_refl _⟩ h
    · replace h := h.2 c2
      refine wg_iload dX8_missing_133 rfl ?_
      exact wp_iret rfl dX8_missing_135 ⟨Nat.le_refl _, Nat.le_refl _⟩ h
  · replace h := h.2 c1
    refine wg_aload_n dX8_missing_75 rfl (Nat.succ_ne_zero _) ?_
    refine wg_getRe dX8_missing_76 (fl_X8_38 rfl) rfl rfl (x1 hS 4 (r := 30) (Nat.le_of_ble_eq_true rfl) nofun nofun rfl) ?_
    refine wg_iload dX8_missing_79 rfl ?_
    refine wg_callV (I' := mX6_missersOf) (ci := 6) (np := 1) (d' := d) (q := 30) (as := [vI s8]) (st := []) dX8_missing_81 lk_X8_154 ci_X6_missersOf rfl (Nat.le_of_ble_eq_true rfl) rfl rfl (Nat.le_of_ble_eq_true rfl) rfl (Nat.le_refl _) ⟨Nat.le_refl _, Nat.le_refl _⟩ h (fun v M6 h => ?_)
    obtain ⟨r7, rfl, hS, h⟩ := h
    refine wg_iload_n dX8_missing_84 rfl ?_
    refine wg_icmp_ne dX8_missing_85 rfl (fun c8 => ?_) (fun c8 => ?_)
    · replace h := h.1 c8
      obtain ⟨o, h⟩ := h
      refine wg_iinc (L' := [some (vR 1), some (vI a1), some (vI a2), some (vI a3), none, some (vI s5), some (vI s6), some (vI s7), some (vI (s8 + 1))]) dX8_missing_123 (Nat.le_of_ble_eq_true rfl) rfl rfl o ?_
      refine wg_goto dX8_missing_126 rfl ?_
      exact h
    · replace h := h.2 c8
      refine wg_aload_n dX8_missing_88 rfl (Nat.succ_ne_zero _) ?_
      refine wg_getRe dX8_missing_89 (fl_X8_38 rfl) rfl rfl (x1 hS 4 (r := 30) (Nat.le_of_ble_eq_true rfl) nofun nofun rfl) ?_
      refine wg_iload dX8_missing_92 rfl ?_
      refine wg_callV (I' := mX6_strengthOf) (ci := 6) (np := 1) (d' := d) (q := 30) (as := [vI s8]) (st := []) dX8_missing_94 lk_X8_178 ci_X6_strengthOf rfl (Nat.le_of_ble_eq_true rfl) rfl rfl (Nat.le_of_ble_eq_true rfl) rfl (Nat.le_refl _) ⟨Nat.le_refl _, Nat.le_refl _⟩ h (fun v M9 h => ?_)
      obtain ⟨r10, rfl, hS, h⟩ := h
      refine wg_iload_n dX8_missing_97 rfl ?_
      refine wg_icmp_ge dX8_missing_98 rfl (fun c11 => ?_) (fun c11 => ?_)
      · replace h := h.1 c11
        refine wg_iload dX8_missing_104 rfl ?_
        refine wg_if_ne dX8_missing_106 rfl (fun c12 => ?_) (fun c12 => ?_)
        · replace h := h.1 c12
          obtain ⟨o, h⟩ := h
          refine wg_iinc (L' := [some (vR 1), some (vI a1), some (vI a2), some (vI a3), none, some (vI (s5 + 1)), some (vI s6), some (vI s7), some (vI s8)]) dX8_missing_113 (Nat.le_of_ble_eq_true rfl) rfl rfl o ?_
          refine wg_iload dX8_missing_116 rfl ?_
          refine wg_iload dX8_missing_118 rfl ?_
          refine wg_iand dX8_missing_120 ?_
          refine wg_istore (L' := [some (vR 1), some (vI a1), some (vI a2), some (vI a3), none, some (vI (s5 + 1)), some (vI s6), some (vI (iandv s7 s8)), some (vI s8)]) dX8_missing_121 (Nat.le_of_ble_eq_true rfl) rfl ?_
          obtain ⟨o, h⟩ := h
          refine wg_iinc (L' := [some (vR 1), some (vI a1), some (vI a2), some (vI a3), none, some (vI (s5 + 1)), some (vI s6), some (vI (iandv s7 s8)), some (vI (s8 + 1))]) dX8_missing_123 (Nat.le_of_ble_eq_true rfl) rfl rfl o ?_
          refine wg_goto dX8_missing_126 rfl ?_
          exact h
        · replace h := h.2 c12
          refine wg_iload dX8_missing_109 rfl ?_
          refine wg_istore (L' := [some (vR 1), some (vI a1), some (vI a2), some (vI a3), none, some (vI s5), some (vI s8), some (vI s7), some (vI s8)]) dX8_missing_111 (Nat.le_of_ble_eq_true rfl) rfl ?_
          obtain ⟨o, h⟩ := h
          refine wg_iinc (L' := [some (vR 1), some (vI a1), some (vI a2), some (vI a3), none, some (vI (s5 + 1)), some (vI s8), some (vI s7), some (vI s8)]) dX8_missing_113 (Nat.le_of_ble_eq_true rfl) rfl rfl o ?_
          refine wg_iload dX8_missing_116 rfl ?_
          refine wg_iload dX8_missing_118 rfl ?_
          refine wg_iand dX8_missing_120 ?_
          refine wg_istore (L' := [some (vR 1), some (vI a1), some (vI a2), some (vI a3), none, some (vI (s5 + 1)), some (vI s8), some (vI (iandv s7 s8)), some (vI s8)]) dX8_missing_121 (Nat.le_of_ble_eq_true rfl) rfl ?_
          obtain ⟨o, h⟩ := h
          refine wg_iinc (L' := [some (vR 1), some (vI a1), some (vI a2), some (vI a3), none, some (vI (s5 + 1)), some (vI s8), some (vI (iandv s7 s8)), some (vI (s8 + 1))]) dX8_missing_123 (Nat.le_of_ble_eq_true rfl) rfl rfl o ?_
          refine wg_goto dX8_missing_126 rfl ?_
          exact h
      · replace h := h.2 c11
        refine wg_goto dX8_missing_101 rfl ?_
        obtain ⟨o, h⟩ := h
        refine wg_iinc (L' := [some (vR 1), some (vI a1), some (vI a2), some (vI a3), none, some (vI s5), some (vI s6), some (vI s7), some (vI (s8 + 1))]) dX8_missing_123 (Nat.le_of_ble_eq_true rfl) rfl rfl o ?_
        refine wg_goto dX8_missing_126 rfl ?_
        exact h
set_option maxRecDepth 100000 in
theorem bX8_trial_0 {G : GG} {d : Nat} {M : MM} {Q : Option AV → MM → Prop} (a1 : Int) (a2 : Int) (a3 : Int) (a4 : Int) (hS : ShX M) (h :
(a1 < 0 →
(Q (some (vL (-1))) M)) ∧
(¬ (a1 < 0) →
((10 < a1 →
(Q (some (vL (-1))) M)) ∧
(¬ (10 < a1) →
((a2 < 0 →
(Q (some (vL (-1))) M)) ∧
(¬ (a2 < 0) →
(((if 10 < a2 then (0 : Int) else 1) = 0 →
(Q (some (vL (-1))) M)) ∧
(¬ ((if 10 < a2 then (0 : Int) else 1) = 0) →
((a3 < 0 →
(Q (some (vL (-1))) M)) ∧
(¬ (a3 < 0) →
((6 < a3 →
(Q (some (vL (-1))) M)) ∧
(¬ (6 < a3) →
((a4 < 0 →
(Q (some (vL (-1))) M)) ∧
(¬ (a4 < 0) →
((a4 ≤ 1 →
(Ok G mX8_power d 0 0 [vI 10, vI a3] M (fun v M10 => ∃ r11 : Int, v = some (vL r11) ∧ ShX M10 ∧ 
(R64 (a1 * r11) ∧
(R32 (10 - a1) ∧
(R32 (10 - a2) ∧
(Ok G mX8_power d 0 0 [vI (10 - a2), vI a3] M10 (fun v M12 => ∃ r13 : Int, v = some (vL r13) ∧ ShX M12 ∧ 
(R64 ((10 - a1) * r13) ∧
(R64 ((a1 * r11) + ((10 - a1) * r13)) ∧
((((a1 * r11) + ((10 - a1) * r13)) ≠ 0 →
(Ok G mX8_commonDivisor d 0 0 [vL (a1 * r11), vL ((a1 * r11) + ((10 - a1) * r13))] M12 (fun v M15 => ∃ r16 : Int, v = some (vL r16) ∧ ShX M15 ∧ 
(r16 ≠ 0 ∧
R64 (Int.tdiv (if a4 = 0 then (a1 * r11 : Int) else (a1 * r11) + ((10 - a1) * r13)) r16) ∧
(Q (some (vL (Int.tdiv (if a4 = 0 then (a1 * r11 : Int) else (a1 * r11) + ((10 - a1) * r13)) r16))) M15))))) ∧
(((a1 * r11) + ((10 - a1) * r13)) = 0 →
(Q (some (vL (-4))) M12))))))))))))) ∧
(¬ (a4 ≤ 1) →
(Q (some (vL (-1))) M))))))))))))))))) :
  Wp G mX8_trial (d + 1) 0 0 0 [some (vR 1), some (vI a1), some (vI a2), some (vI a3), some (vI a4), none, none, none, none, none, none, none, none, none] [] M 0 0 Q := by
  refine wg_iload_n dX8_trial_0 rfl ?_
  refine wg_if_lt dX8_trial_1 rfl (fun c1 => ?_) (fun c1 => ?_)
  · replace h := h.1 c1
    refine wg_iconst dX8_trial_24 qiconst_0 ?_
    refine wg_istore (L' := [some (vR 1), some (vI a1), some (vI a2), some (vI a3), some (vI a4), some (vI 0), none, none, none, none, none, none, none, none]) dX8_trial_25 (Nat.le_of_ble_eq_true rfl) rfl ?_
    refine wg_iload dX8_trial_27 rfl ?_
    refine wg_if_eq dX8_trial_29 rfl (fun _ => ?_) (fun c => absurd c (by decide))
    refine wg_ldc2 dX8_trial_53 kc_X8_254 ⟨by decide, by decide⟩ ?_
    exact wp_lret rfl dX8_trial_56 ⟨Nat.le_refl _, Nat.le_refl _⟩ h
  · replace h := h.2 c1
    refine wg_iload_n dX8_trial_4 rfl ?_
    refine wg_bipush dX8_trial_5 qbipush_10 ?_
    refine wg_icmp_gt dX8_trial_7 rfl (fun c2 => ?_) (fun c2 => ?_)
    · replace h := h.1 c2
      refine wg_iconst dX8_trial_24 qiconst_0 ?_
      refine wg_istore (L' := [some (vR 1), some (vI a1), some (vI a2), some (vI a3), some (vI a4), some (vI 0), none, none, none, none, none, none, none, none]) dX8_trial_25 (Nat.le_of_ble_eq_true rfl) rfl ?_
      refine wg_iload dX8_trial_27 rfl ?_
      refine wg_if_eq dX8_trial_29 rfl (fun _ => ?_) (fun c => absurd c (by decide))
      refine wg_ldc2 dX8_trial_53 kc_X8_254 ⟨by decide, by decide⟩ ?_
      exact wp_lret rfl dX8_trial_56 ⟨Nat.le_refl _, Nat.le_refl _⟩ h
    · replace h := h.2 c2
      refine wg_iload_n dX8_trial_10 rfl ?_
      refine wg_if_lt dX8_trial_11 rfl (fun c3 => ?_) (fun c3 => ?_)
      · replace h := h.1 c3
        refine wg_iconst dX8_trial_24 qiconst_0 ?_
        refine wg_istore (L' := [some (vR 1), some (vI a1), some (vI a2), some (vI a3), some (vI a4), some (vI 0), none, none, none, none, none, none, none, none]) dX8_trial_25 (Nat.le_of_ble_eq_true rfl) rfl ?_
        refine wg_iload dX8_trial_27 rfl ?_
        refine wg_if_eq dX8_trial_29 rfl (fun _ => ?_) (fun c => absurd c (by decide))
        refine wg_ldc2 dX8_trial_53 kc_X8_254 ⟨by decide, by decide⟩ ?_
        exact wp_lret rfl dX8_trial_56 ⟨Nat.le_refl _, Nat.le_refl _⟩ h
      · replace h := h.2 c3
        refine wg_iload_n dX8_trial_14 rfl ?_
        refine wg_bipush dX8_trial_15 qbipush_10 ?_
        have hJ19 : Wp G mX8_trial (d + 1) 0 0 25 [some (vR 1), some (vI a1), some (vI a2), some (vI a3), some (vI a4), none, none, none, none, none, none, none, none, none] [vI (if 10 < a2 then (0 : Int) else 1)] M 0 0 Q := by
          refine wg_istore (L' := [some (vR 1), some (vI a1), some (vI a2), some (vI a3), some (vI a4), some (vI (if 10 < a2 then (0 : Int) else 1)), none, none, none, none, none, none, none, none]) dX8_trial_25 (Nat.le_of_ble_eq_true rfl) rfl ?_
          refine wg_iload dX8_trial_27 rfl ?_
          refine wg_if_eq dX8_trial_29 rfl (fun c5 => ?_) (fun c5 => ?_)
          · replace h := h.1 c5
            refine wg_ldc2 dX8_trial_53 kc_X8_254 ⟨by decide, by decide⟩ ?_
            exact wp_lret rfl dX8_trial_56 ⟨Nat.le_refl _, Nat.le_refl _⟩ h
          · replace h := h.2 c5
            refine wg_iload_n dX8_trial_32 rfl ?_
            refine wg_if_lt dX8_trial_33 rfl (fun c6 => ?_) (fun c6 => ?_)
            · replace h := h.1 c6
              refine wg_ldc2 dX8_trial_53 kc_X8_254 ⟨by decide, by decide⟩ ?_
              exact wp_lret rfl dX8_trial_56 ⟨Nat.le_refl _, Nat.le_refl _⟩ h
            · replace h := h.2 c6
              refine wg_iload_n dX8_trial_36 rfl ?_
              refine wg_bipush dX8_trial_37 qbipush_6 ?_
              refine wg_icmp_gt dX8_trial_39 rfl (fun c7 => ?_) (fun c7 => ?_)
              · replace h := h.1 c7
                refine wg_ldc2 dX8_trial_53 kc_X8_254 ⟨by decide, by decide⟩ ?_
                exact wp_lret rfl dX8_trial_56 ⟨Nat.le_refl _, Nat.le_refl _⟩ h
              · replace h := h.2 c7
                refine wg_iload dX8_trial_42 rfl ?_
                refine wg_if_lt dX8_trial_44 rfl (fun c8 => ?_) (fun c8 => ?_)
                · replace h := h.1 c8
                  refine wg_ldc2 dX8_trial_53 kc_X8_254 ⟨by decide, by decide⟩ ?_
                  exact wp_lret rfl dX8_trial_56 ⟨Nat.le_refl _, Nat.le_refl _⟩ h
                · replace h := h.2 c8
                  refine wg_iload dX8_trial_47 rfl ?_
                  refine wg_iconst dX8_trial_49 qiconst_1 ?_
                  refine wg_icmp_le dX8_trial_50 rfl (fun c9 => ?_) (fun c9 => ?_)
                  · replace h := h.1 c9
                    refine wg_iload_n dX8_trial_57 rfl ?_
                    refine wg_i2l dX8_trial_58 ?_
                    refine wg_bipush dX8_trial_59 qbipush_10 ?_
                    refine wg_iload_n dX8_trial_61 rfl ?_
                    refine wg_callS (I' := mX8_power) (np := 2) (d' := d) (as := [vI 10, vI a3]) (st := [vL a1]) dX8_trial_62 lk_X8_256 ci_X8_power rfl rfl (Nat.le_of_ble_eq_true rfl) (Nat.le_refl _) ⟨Nat.le_refl _, Nat.le_refl _⟩ h (fun v M10 h => ?_)
                    obtain ⟨r11, rfl, hS, h⟩ := h
                    obtain ⟨o, h⟩ := h
                    refine wg_lmul dX8_trial_65 o ?_
                    refine wg_lstore (L' := [some (vR 1), some (vI a1), some (vI a2), some (vI a3), some (vI a4), some (vI (if 10 < a2 then (0 : Int) else 1)), some (vL (a1 * r11)), none, none, none, none, none, none, none]) dX8_trial_66 (Nat.le_of_ble_eq_true rfl) rfl ?_
                    refine wg_bipush dX8_trial_68 qbipush_10 ?_
                    refine wg_iload_n dX8_trial_70 rfl ?_
                    obtain ⟨o, h⟩ := h
                    refine wg_isub dX8_trial_71 o ?_
                    refine wg_i2l dX8_trial_72 ?_
                    refine wg_bipush dX8_trial_73 qbipush_10 ?_
                    refine wg_iload_n dX8_trial_75 rfl ?_
                    obtain ⟨o, h⟩ := h
                    refine wg_isub dX8_trial_76 o ?_
                    refine wg_iload_n dX8_trial_77 rfl ?_
                    refine wg_callS (I' := mX8_power) (np := 2) (d' := d) (as := [vI (10 - a2), vI a3]) (st := [vL (10 - a1)]) dX8_trial_78 lk_X8_256 ci_X8_power rfl rfl (Nat.le_of_ble_eq_true rfl) (Nat.le_refl _) ⟨Nat.le_refl _, Nat.le_refl _⟩ h (fun v M12 h => ?_)
                    obtain ⟨r13, rfl, hS, h⟩ := h
                    obtain ⟨o, h⟩ := h
                    refine wg_lmul dX8_trial_81 o ?_
                    refine wg_lstore (L' := [some (vR 1), some (vI a1), some (vI a2), some (vI a3), some (vI a4), some (vI (if 10 < a2 then (0 : Int) else 1)), some (vL (a1 * r11)), none, some (vL ((10 - a1) * r13)), none, none, none, none, none]) dX8_trial_82 (Nat.le_of_ble_eq_true rfl) rfl ?_
                    refine wg_lload dX8_trial_84 rfl ?_
                    refine wg_lload dX8_trial_86 rfl ?_
                    obtain ⟨o, h⟩ := h
                    refine wg_ladd dX8_trial_88 o ?_
                    refine wg_lstore (L' := [some (vR 1), some (vI a1), some (vI a2), some (vI a3), some (vI a4), some (vI (if 10 < a2 then (0 : Int) else 1)), some (vL (a1 * r11)), none, some (vL ((10 - a1) * r13)), none, some (vL ((a1 * r11) + ((10 - a1) * r13))), none, none, none]) dX8_trial_89 (Nat.le_of_ble_eq_true rfl) rfl ?_
                    refine wg_lload dX8_trial_91 rfl ?_
                    refine wg_lconst dX8_trial_93 rfl ?_
                    refine wg_lcmp dX8_trial_94 ?_
                    refine wg_if_ne dX8_trial_95 rfl (fun c14 => ?_) (fun c14 => ?_)
                    · replace c14 := lcmp_ne.mp c14
                      replace h := h.1 c14
                      refine wg_lload dX8_trial_102 rfl ?_
                      refine wg_lload dX8_trial_104 rfl ?_
                      refine wg_callS (I' := mX8_commonDivisor) (np := 2) (d' := d) (as := [vL (a1 * r11), vL ((a1 * r11) + ((10 - a1) * r13))]) (st := []) dX8_trial_106 lk_X8_262 ci_X8_commonDivisor rfl rfl (Nat.le_of_ble_eq_true rfl) (Nat.le_refl _) ⟨Nat.le_refl _, Nat.le_refl _⟩ h (fun v M15 h => ?_)
                      obtain ⟨r16, rfl, hS, h⟩ := h
                      refine wg_lstore (L' := [some (vR 1), some (vI a1), some (vI a2), some (vI a3), some (vI a4), some (vI (if 10 < a2 then (0 : Int) else 1)), some (vL (a1 * r11)), none, some (vL ((10 - a1) * r13)), none, some (vL ((a1 * r11) + ((10 - a1) * r13))), none, some (vL r16), none]) dX8_trial_109 (Nat.le_of_ble_eq_true rfl) rfl ?_
                      refine wg_iload dX8_trial_111 rfl ?_
                      have hJ18 : Wp G mX8_trial (d + 1) 0 0 123 [some (vR 1), some (vI a1), some (vI a2), some (vI a3), some (vI a4), some (vI (if 10 < a2 then (0 : Int) else 1)), some (vL (a1 * r11)), none, some (vL ((10 - a1) * r13)), none, some (vL ((a1 * r11) + ((10 - a1) * r13))), none, some (vL r16), none] [vL (if a4 = 0 then (a1 * r11 : Int) else (a1 * r11) + ((10 - a1) * r13))] M15 0 0 Q := by
                        refine wg_lload dX8_trial_123 rfl ?_
                        obtain ⟨o1, h⟩ := h
                        obtain ⟨o, h⟩ := h
                        refine wg_ldiv dX8_trial_125 o1 o ?_
                        exact wp_lret rfl dX8_trial_126 ⟨Nat.le_refl _, Nat.le_refl _⟩ h
                      refine wg_if_ne dX8_trial_113 rfl (fun c17 => ?_) (fun c17 => ?_)
                      · rw [show (if a4 = 0 then (a1 * r11 : Int) else (a1 * r11) + ((10 - a1) * r13)) = (a1 * r11) + ((10 - a1) * r13) from if_neg c17] at hJ18
                        refine wg_lload dX8_trial_121 rfl ?_
                        exact hJ18
                      · rw [show (if a4 = 0 then (a1 * r11 : Int) else (a1 * r11) + ((10 - a1) * r13)) = a1 * r11 from if_pos c17] at hJ18
                        refine wg_lload dX8_trial_116 rfl ?_
                        refine wg_goto dX8_trial_118 rfl ?_
                        exact hJ18
                    · replace c14 := lcmp_eq.mp c14
                      replace h := h.2 c14
                      refine wg_ldc2 dX8_trial_98 kc_X8_260 ⟨by decide, by decide⟩ ?_
                      exact wp_lret rfl dX8_trial_101 ⟨Nat.le_refl _, Nat.le_refl _⟩ h
                  · replace h := h.2 c9
                    refine wg_ldc2 dX8_trial_53 kc_X8_254 ⟨by decide, by decide⟩ ?_
                    exact wp_lret rfl dX8_trial_56 ⟨Nat.le_refl _, Nat.le_refl _⟩ h
        refine wg_icmp_gt dX8_trial_17 rfl (fun c4 => ?_) (fun c4 => ?_)
        · rw [show (if 10 < a2 then (0 : Int) else 1) = 0 from if_pos c4] at hJ19
          refine wg_iconst dX8_trial_24 qiconst_0 ?_
          exact hJ19
        · rw [show (if 10 < a2 then (0 : Int) else 1) = 1 from if_neg c4] at hJ19
          refine wg_iconst dX8_trial_20 qiconst_1 ?_
          refine wg_goto dX8_trial_21 rfl ?_
          exact hJ19
set_option maxRecDepth 100000 in
theorem bX8_pledge_0 {G : GG} {d : Nat} {M : MM} {Q : Option AV → MM → Prop} (a1 : Int) (hS : ShX M) (h :
(a1 < 0 →
(Q (some (vI (-1))) M)) ∧
(¬ (a1 < 0) →
((a1 ≤ 1 →
(Wp G mX8_pledge (d + 1) 0 0 19 [some (vR 1), some (vI a1), some (vI 0), some (vI (-4)), some (vI 0), none] [] M 0 0 Q)) ∧
(¬ (a1 ≤ 1) →
(Q (some (vI (-1))) M))))) :
  Wp G mX8_pledge (d + 1) 0 0 0 [some (vR 1), some (vI a1), none, none, none, none] [] M 0 0 Q := by
  refine wg_iload_n dX8_pledge_0 rfl ?_
  refine wg_if_lt dX8_pledge_1 rfl (fun c1 => ?_) (fun c1 => ?_)
  · replace h := h.1 c1
    refine wg_iconst dX8_pledge_9 qiconst_m1 ?_
    exact wp_iret rfl dX8_pledge_10 ⟨Nat.le_refl _, Nat.le_refl _⟩ h
  · replace h := h.2 c1
    refine wg_iload_n dX8_pledge_4 rfl ?_
    refine wg_iconst dX8_pledge_5 qiconst_1 ?_
    refine wg_icmp_le dX8_pledge_6 rfl (fun c2 => ?_) (fun c2 => ?_)
    · replace h := h.1 c2
      refine wg_iconst dX8_pledge_11 qiconst_0 ?_
      refine wg_istore_n (L' := [some (vR 1), some (vI a1), some (vI 0), none, none, none]) dX8_pledge_12 (Nat.le_of_ble_eq_true rfl) rfl ?_
      refine wg_bipush dX8_pledge_13 qbipush_m4 ?_
      refine wg_istore_n (L' := [some (vR 1), some (vI a1), some (vI 0), some (vI (-4)), none, none]) dX8_pledge_15 (Nat.le_of_ble_eq_true rfl) rfl ?_
      refine wg_iconst dX8_pledge_16 qiconst_0 ?_
      refine wg_istore (L' := [some (vR 1), some (vI a1), some (vI 0), some (vI (-4)), some (vI 0), none]) dX8_pledge_17 (Nat.le_of_ble_eq_true rfl) rfl ?_
      exact h
    · replace h := h.2 c2
      refine wg_iconst dX8_pledge_9 qiconst_m1 ?_
      exact wp_iret rfl dX8_pledge_10 ⟨Nat.le_refl _, Nat.le_refl _⟩ h
set_option maxRecDepth 100000 in
theorem bX8_pledge_19 {G : GG} {d : Nat} {M : MM} {Q : Option AV → MM → Prop} (a1 : Int) (s2 : Int) (s3 : Int) (s4 : Int) (hS : ShX M) (h :
((gI M (gR M 1 2) 2) ≤ s4 →
(Q (some (vI (if a1 = 0 then (s2 : Int) else s3))) M)) ∧
(¬ ((gI M (gR M 1 2) 2) ≤ s4) →
(Wp G mX8_pledge (d + 1) 0 0 34 [some (vR 1), some (vI a1), some (vI s2), some (vI s3), some (vI s4), some (vI 0)] [] M 0 0 Q))) :
  Wp G mX8_pledge (d + 1) 0 0 19 [some (vR 1), some (vI a1), some (vI s2), some (vI s3), some (vI s4), none] [] M 0 0 Q := by
  refine wg_iload dX8_pledge_19 rfl ?_
  refine wg_aload_n dX8_pledge_21 rfl (Nat.succ_ne_zero _) ?_
  have hq1 := (xlaid hS)
  refine wg_getRe dX8_pledge_22 (fl_X8_28 rfl) rfl rfl rfl ?_
  refine wg_getI dX8_pledge_25 (fl_X8_139 rfl) rfl hq1 ?_
  refine wg_icmp_ge dX8_pledge_28 rfl (fun c2 => ?_) (fun c2 => ?_)
  · replace h := h.1 c2
    refine wg_iload_n dX8_pledge_88 rfl ?_
    have hJ4 : Wp G mX8_pledge (d + 1) 0 0 97 [some (vR 1), some (vI a1), some (vI s2), some (vI s3), some (vI s4), none] [vI (if a1 = 0 then (s2 : Int) else s3)] M 0 0 Q := by
      exact wp_iret rfl dX8_pledge_97 ⟨Nat.le_refl _, Nat.le_refl _⟩ h
    refine wg_if_ne dX8_pledge_89 rfl (fun c3 => ?_) (fun c3 => ?_)
    · rw [show (if a1 = 0 then (s2 : Int) else s3) = s3 from if_neg c3] at hJ4
      refine wg_iload_n dX8_pledge_96 rfl ?_
      exact hJ4
    · rw [show (if a1 = 0 then (s2 : Int) else s3) = s2 from if_pos c3] at hJ4
      refine wg_iload_n dX8_pledge_92 rfl ?_
      refine wg_goto dX8_pledge_93 rfl ?_
      exact hJ4
  · replace h := h.2 c2
    refine wg_iconst dX8_pledge_31 qiconst_0 ?_
    refine wg_istore (L' := [some (vR 1), some (vI a1), some (vI s2), some (vI s3), some (vI s4), some (vI 0)]) dX8_pledge_32 (Nat.le_of_ble_eq_true rfl) rfl ?_
    exact h
set_option maxRecDepth 100000 in
theorem bX8_pledge_34 {G : GG} {d : Nat} {M : MM} {Q : Option AV → MM → Prop} (a1 : Int) (s2 : Int) (s3 : Int) (s4 : Int) (s5 : Int) (hS : ShX M) (h :
((gI M (gR M 1 2) 2) ≤ s5 →
(R32 (s4 + 1) ∧
(Wp G mX8_pledge (d + 1) 0 0 19 [some (vR 1), some (vI a1), some (vI s2), some (vI s3), some (vI (s4 + 1)), none] [] M 0 0 Q))) ∧
(¬ ((gI M (gR M 1 2) 2) ≤ s5) →
(Ok G mX8_pledgeRests d 0 0 [vR 1, vI s4, vI s5] M (fun v M3 => ∃ r4 : Int, v = some (vI r4) ∧ ShX M3 ∧ 
((r4 ≠ 0 →
((s2 ≠ 0 →
(R32 (s2 + 1) ∧
(R32 (s5 + 1) ∧
(Wp G mX8_pledge (d + 1) 0 0 34 [some (vR 1), some (vI a1), some (vI (s2 + 1)), some (vI s3), some (vI s4), some (vI (s5 + 1))] [] M3 0 0 Q)))) ∧
(s2 = 0 →
(R32 (8 * s4) ∧
(R32 ((8 * s4) + s5) ∧
(R32 (s2 + 1) ∧
(R32 (s5 + 1) ∧
(Wp G mX8_pledge (d + 1) 0 0 34 [some (vR 1), some (vI a1), some (vI (s2 + 1)), some (vI ((8 * s4) + s5)), some (vI s4), some (vI (s5 + 1))] [] M3 0 0 Q)))))))) ∧
(r4 = 0 →
(R32 (s5 + 1) ∧
(Wp G mX8_pledge (d + 1) 0 0 34 [some (vR 1), some (vI a1), some (vI s2), some (vI s3), some (vI s4), some (vI (s5 + 1))] [] M3 0 0 Q)))))))) :
  Wp G mX8_pledge (d + 1) 0 0 34 [some (vR 1), some (vI a1), some (vI s2), some (vI s3), some (vI s4), some (vI s5)] [] M 0 0 Q := by
  refine wg_iload dX8_pledge_34 rfl ?_
  refine wg_aload_n dX8_pledge_36 rfl (Nat.succ_ne_zero _) ?_
  have hq1 := (xlaid hS)
  refine wg_getRe dX8_pledge_37 (fl_X8_28 rfl) rfl rfl rfl ?_
  refine wg_getI dX8_pledge_40 (fl_X8_139 rfl) rfl hq1 ?_
  refine wg_icmp_ge dX8_pledge_43 rfl (fun c2 => ?_) (fun c2 => ?_)
  · replace h := h.1 c2
    obtain ⟨o, h⟩ := h
    refine wg_iinc (L' := [some (vR 1), some (vI a1), some (vI s2), some (vI s3), some (vI (s4 + 1)), some (vI s5)]) dX8_pledge_82 (Nat.le_of_ble_eq_true rfl) rfl rfl o ?_
    refine wg_goto dX8_pledge_85 rfl ?_
    refine wg_weak [true, true, true, true, true, false] rfl ?_
    exact h
  · replace h := h.2 c2
    refine wg_aload_n dX8_pledge_46 rfl (Nat.succ_ne_zero _) ?_
    refine wg_iload dX8_pledge_47 rfl ?_
    refine wg_iload dX8_pledge_49 rfl ?_
    refine wg_callV (I' := mX8_pledgeRests) (ci := 8) (np := 2) (d' := d) (q := 1) (as := [vI s4, vI s5]) (st := []) dX8_pledge_51 lk_X8_266 ci_X8_pledgeRests rfl (Nat.le_of_ble_eq_true rfl) rfl rfl (Nat.le_of_ble_eq_true rfl) rfl (Nat.le_refl _) ⟨Nat.le_refl _, Nat.le_refl _⟩ h (fun v M3 h => ?_)
    obtain ⟨r4, rfl, hS, h⟩ := h
    refine wg_if_ne dX8_pledge_54 rfl (fun c5 => ?_) (fun c5 => ?_)
    · replace h := h.1 c5
      refine wg_iload_n dX8_pledge_60 rfl ?_
      refine wg_if_ne dX8_pledge_61 rfl (fun c6 => ?_) (fun c6 => ?_)
      · replace h := h.1 c6
        obtain ⟨o, h⟩ := h
        refine wg_iinc (L' := [some (vR 1), some (vI a1), some (vI (s2 + 1)), some (vI s3), some (vI s4), some (vI s5)]) dX8_pledge_73 (Nat.le_of_ble_eq_true rfl) rfl rfl o ?_
        obtain ⟨o, h⟩ := h
        refine wg_iinc (L' := [some (vR 1), some (vI a1), some (vI (s2 + 1)), some (vI s3), some (vI s4), some (vI (s5 + 1))]) dX8_pledge_76 (Nat.le_of_ble_eq_true rfl) rfl rfl o ?_
        refine wg_goto dX8_pledge_79 rfl ?_
        exact h
      · replace h := h.2 c6
        refine wg_bipush dX8_pledge_64 qbipush_8 ?_
        refine wg_iload dX8_pledge_66 rfl ?_
        obtain ⟨o, h⟩ := h
        refine wg_imul dX8_pledge_68 o ?_
        refine wg_iload dX8_pledge_69 rfl ?_
        obtain ⟨o, h⟩ := h
        refine wg_iadd dX8_pledge_71 o ?_
        refine wg_istore_n (L' := [some (vR 1), some (vI a1), some (vI s2), some (vI ((8 * s4) + s5)), some (vI s4), some (vI s5)]) dX8_pledge_72 (Nat.le_of_ble_eq_true rfl) rfl ?_
        obtain ⟨o, h⟩ := h
        refine wg_iinc (L' := [some (vR 1), some (vI a1), some (vI (s2 + 1)), some (vI ((8 * s4) + s5)), some (vI s4), some (vI s5)]) dX8_pledge_73 (Nat.le_of_ble_eq_true rfl) rfl rfl o ?_
        obtain ⟨o, h⟩ := h
        refine wg_iinc (L' := [some (vR 1), some (vI a1), some (vI (s2 + 1)), some (vI ((8 * s4) + s5)), some (vI s4), some (vI (s5 + 1))]) dX8_pledge_76 (Nat.le_of_ble_eq_true rfl) rfl rfl o ?_
        refine wg_goto dX8_pledge_79 rfl ?_
        exact h
    · replace h := h.2 c5
      refine wg_goto dX8_pledge_57 rfl ?_
      obtain ⟨o, h⟩ := h
      refine wg_iinc (L' := [some (vR 1), some (vI a1), some (vI s2), some (vI s3), some (vI s4), some (vI (s5 + 1))]) dX8_pledge_76 (Nat.le_of_ble_eq_true rfl) rfl rfl o ?_
      refine wg_goto dX8_pledge_79 rfl ?_
      exact h
set_option maxRecDepth 100000 in
theorem bX8_pledgeRests_0 {G : GG} {d : Nat} {M : MM} {Q : Option AV → MM → Prop} (a1 : Int) (a2 : Int) (hS : ShX M) (h :
Ok G mX8_pledgeLoss d 0 0 [vR 1, vI a1, vI a2] M (fun v M1 => ∃ r2 : Int, v = some (vI r2) ∧ ShX M1 ∧ 
(Wp G mX8_pledgeRests (d + 1) 0 0 10 [some (vR 1), some (vI a1), some (vI a2), some (vI r2), some (vI 0)] [] M1 0 0 Q))) :
  Wp G mX8_pledgeRests (d + 1) 0 0 0 [some (vR 1), some (vI a1), some (vI a2), none, none] [] M 0 0 Q := by
  refine wg_aload_n dX8_pledgeRests_0 rfl (Nat.succ_ne_zero _) ?_
  refine wg_iload_n dX8_pledgeRests_1 rfl ?_
  refine wg_iload_n dX8_pledgeRests_2 rfl ?_
  refine wg_callV (I' := mX8_pledgeLoss) (ci := 8) (np := 2) (d' := d) (q := 1) (as := [vI a1, vI a2]) (st := []) dX8_pledgeRests_3 lk_X8_269 ci_X8_pledgeLoss rfl (Nat.le_of_ble_eq_true rfl) rfl rfl (Nat.le_of_ble_eq_true rfl) rfl (Nat.le_refl _) ⟨Nat.le_refl _, Nat.le_refl _⟩ h (fun v M1 h => ?_)
  obtain ⟨r2, rfl, hS, h⟩ := h
  refine wg_istore_n (L' := [some (vR 1), some (vI a1), some (vI a2), some (vI r2), none]) dX8_pledgeRests_6 (Nat.le_of_ble_eq_true rfl) rfl ?_
  refine wg_iconst dX8_pledgeRests_7 qiconst_0 ?_
  refine wg_istore (L' := [some (vR 1), some (vI a1), some (vI a2), some (vI r2), some (vI 0)]) dX8_pledgeRests_8 (Nat.le_of_ble_eq_true rfl) rfl ?_
  exact h
set_option maxRecDepth 100000 in
theorem bX8_pledgeRests_10 {G : GG} {d : Nat} {M : MM} {Q : Option AV → MM → Prop} (a1 : Int) (a2 : Int) (s3 : Int) (s4 : Int) (hS : ShX M) (h :
((gI M (gR M 1 2) 2) ≤ s4 →
(Q (some (vI 1)) M)) ∧
(¬ ((gI M (gR M 1 2) 2) ≤ s4) →
(Ok G mX8_pledgeLoss d 0 0 [vR 1, vI s4, vI a2] M (fun v M3 => ∃ r4 : Int, v = some (vI r4) ∧ ShX M3 ∧ 
((r4 < s3 →
(Q (some (vI 0)) M3)) ∧
(¬ (r4 < s3) →
(Ok G mX8_pledgeLoss d 0 0 [vR 1, vI a1, vI s4] M3 (fun v M6 => ∃ r7 : Int, v = some (vI r7) ∧ ShX M6 ∧ 
((r7 ≤ s3 →
(R32 (s4 + 1) ∧
(Wp G mX8_pledgeRests (d + 1) 0 0 10 [some (vR 1), some (vI a1), some (vI a2), some (vI s3), some (vI (s4 + 1))] [] M6 0 0 Q))) ∧
(¬ (r7 ≤ s3) →
(Q (some (vI 0)) M6))))))))))) :
  Wp G mX8_pledgeRests (d + 1) 0 0 10 [some (vR 1), some (vI a1), some (vI a2), some (vI s3), some (vI s4)] [] M 0 0 Q := by
  refine wg_iload dX8_pledgeRests_10 rfl ?_
  refine wg_aload_n dX8_pledgeRests_12 rfl (Nat.succ_ne_zero _) ?_
  have hq1 := (xlaid hS)
  refine wg_getRe dX8_pledgeRests_13 (fl_X8_28 rfl) rfl rfl rfl ?_
  refine wg_getI dX8_pledgeRests_16 (fl_X8_139 rfl) rfl hq1 ?_
  refine wg_icmp_ge dX8_pledgeRests_19 rfl (fun c2 => ?_) (fun c2 => ?_)
  · replace h := h.1 c2
    refine wg_iconst dX8_pledgeRests_52 qiconst_1 ?_
    exact wp_zret rfl dX8_pledgeRests_53 ⟨Nat.le_refl _, Nat.le_refl _⟩ (Or.inr rfl) h
  · replace h := h.2 c2
    refine wg_aload_n dX8_pledgeRests_22 rfl (Nat.succ_ne_zero _) ?_
    refine wg_iload dX8_pledgeRests_23 rfl ?_
    refine wg_iload_n dX8_pledgeRests_25 rfl ?_
    refine wg_callV (I' := mX8_pledgeLoss) (ci := 8) (np := 2) (d' := d) (q := 1) (as := [vI s4, vI a2]) (st := []) dX8_pledgeRests_26 lk_X8_269 ci_X8_pledgeLoss rfl (Nat.le_of_ble_eq_true rfl) rfl rfl (Nat.le_of_ble_eq_true rfl) rfl (Nat.le_refl _) ⟨Nat.le_refl _, Nat.le_refl _⟩ h (fun v M3 h => ?_)
    obtain ⟨r4, rfl, hS, h⟩ := h
    refine wg_iload_n dX8_pledgeRests_29 rfl ?_
    refine wg_icmp_lt dX8_pledgeRests_30 rfl (fun c5 => ?_) (fun c5 => ?_)
    · replace h := h.1 c5
      refine wg_iconst dX8_pledgeRests_44 qiconst_0 ?_
      exact wp_zret rfl dX8_pledgeRests_45 ⟨Nat.le_refl _, Nat.le_refl _⟩ (Or.inl rfl) h
    · replace h := h.2 c5
      refine wg_aload_n dX8_pledgeRests_33 rfl (Nat.succ_ne_zero _) ?_
      refine wg_iload_n dX8_pledgeRests_34 rfl ?_
      refine wg_iload dX8_pledgeRests_35 rfl ?_
      refine wg_callV (I' := mX8_pledgeLoss) (ci := 8) (np := 2) (d' := d) (q := 1) (as := [vI a1, vI s4]) (st := []) dX8_pledgeRests_37 lk_X8_269 ci_X8_pledgeLoss rfl (Nat.le_of_ble_eq_true rfl) rfl rfl (Nat.le_of_ble_eq_true rfl) rfl (Nat.le_refl _) ⟨Nat.le_refl _, Nat.le_refl _⟩ h (fun v M6 h => ?_)
      obtain ⟨r7, rfl, hS, h⟩ := h
      refine wg_iload_n dX8_pledgeRests_40 rfl ?_
      refine wg_icmp_le dX8_pledgeRests_41 rfl (fun c8 => ?_) (fun c8 => ?_)
      · replace h := h.1 c8
        obtain ⟨o, h⟩ := h
        refine wg_iinc (L' := [some (vR 1), some (vI a1), some (vI a2), some (vI s3), some (vI (s4 + 1))]) dX8_pledgeRests_46 (Nat.le_of_ble_eq_true rfl) rfl rfl o ?_
        refine wg_goto dX8_pledgeRests_49 rfl ?_
        exact h
      · replace h := h.2 c8
        refine wg_iconst dX8_pledgeRests_44 qiconst_0 ?_
        exact wp_zret rfl dX8_pledgeRests_45 ⟨Nat.le_refl _, Nat.le_refl _⟩ (Or.inl rfl) h
set_option maxRecDepth 100000 in
theorem bX8_pledgeLoss_0 {G : GG} {d : Nat} {M : MM} {Q : Option AV → MM → Prop} (a1 : Int) (a2 : Int) (hS : ShX M) (h :
Ok G mX7_weightOfPerson d 0 0 [vR (gR M 1 2), vI a1] M (fun v M3 => ∃ r4 : Int, v = some (vI r4) ∧ ShX M3 ∧ 
(R32 ((if a1 = a2 then (3 : Int) else 1) * r4) ∧
(Q (some (vI ((if a1 = a2 then (3 : Int) else 1) * r4))) M3)))) :
  Wp G mX8_pledgeLoss (d + 1) 0 0 0 [some (vR 1), some (vI a1), some (vI a2)] [] M 0 0 Q := by
  refine wg_iload_n dX8_pledgeLoss_0 rfl ?_
  refine wg_iload_n dX8_pledgeLoss_1 rfl ?_
  have hJ5 : Wp G mX8_pledgeLoss (d + 1) 0 0 10 [some (vR 1), some (vI a1), some (vI a2)] [vI (if a1 = a2 then (3 : Int) else 1)] M 0 0 Q := by
    refine wg_aload_n dX8_pledgeLoss_10 rfl (Nat.succ_ne_zero _) ?_
    have hq2 := (xlaid hS)
    refine wg_getRe dX8_pledgeLoss_11 (fl_X8_28 rfl) rfl rfl rfl ?_
    refine wg_iload_n dX8_pledgeLoss_14 rfl ?_
    refine wg_callV (I' := mX7_weightOfPerson) (ci := 7) (np := 1) (d' := d) (q := gR M 1 2) (as := [vI a1]) (st := [vI (if a1 = a2 then (3 : Int) else 1)]) dX8_pledgeLoss_15 lk_X8_145 ci_X7_weightOfPerson rfl (Nat.le_of_ble_eq_true rfl) rfl rfl (Nat.le_of_ble_eq_true rfl) hq2 (Nat.le_refl _) ⟨Nat.le_refl _, Nat.le_refl _⟩ h (fun v M3 h => ?_)
    obtain ⟨r4, rfl, hS, h⟩ := h
    obtain ⟨o, h⟩ := h
    refine wg_imul dX8_pledgeLoss_18 o ?_
    exact wp_iret rfl dX8_pledgeLoss_19 ⟨Nat.le_refl _, Nat.le_refl _⟩ h
  refine wg_icmp_ne dX8_pledgeLoss_2 rfl (fun c1 => ?_) (fun c1 => ?_)
  · rw [show (if a1 = a2 then (3 : Int) else 1) = 1 from if_neg c1] at hJ5
    refine wg_iconst dX8_pledgeLoss_9 qiconst_1 ?_
    exact hJ5
  · rw [show (if a1 = a2 then (3 : Int) else 1) = 3 from if_pos c1] at hJ5
    refine wg_iconst dX8_pledgeLoss_5 qiconst_3 ?_
    refine wg_goto dX8_pledgeLoss_6 rfl ?_
    exact hJ5
set_option maxRecDepth 100000 in
theorem bX8_gain_0 {G : GG} {d : Nat} {M : MM} {Q : Option AV → MM → Prop} (a1 : Int) (hS : ShX M) (h :
(a1 < (-3) →
(Q (some (vI (-1))) M)) ∧
(¬ (a1 < (-3)) →
((a1 ≤ 5 →
(Ok G mX0_find d 0 0 [vR 94, vR (gR M 1 2)] M (fun v M4 => ∃ r5 : Int, v = some (vI r5) ∧ ShX M4 ∧ 
((r5 ≠ 0 →
((a1 = (-3) →
(Ok G mX0_below d 0 0 [vR 94] M4 (fun v M7 => ∃ r8 : Int, v = some (vI r8) ∧ ShX M7 ∧ 
(Q (some (vI r8)) M7)))) ∧
(a1 = (-2) →
(Ok G mX0_above d 0 0 [vR 94] M4 (fun v M9 => ∃ r10 : Int, v = some (vI r10) ∧ ShX M9 ∧ 
(Q (some (vI r10)) M9)))) ∧
(a1 = (-1) →
(Q (some (vI (gI M4 94 0))) M4)) ∧
((a1 < (-3) ∨ (-1) < a1) →
(Ok G mX0_exchangeAt d 0 0 [vR 94, vI a1] M4 (fun v M11 => ∃ r12 : Int, v = some (vI r12) ∧ ShX M11 ∧ 
(Q (some (vI r12)) M11)))))) ∧
(r5 = 0 →
(Q (some (vI (-4))) M4)))))) ∧
(¬ (a1 ≤ 5) →
(Q (some (vI (-1))) M))))) :
  Wp G mX8_gain (d + 1) 0 0 0 [some (vR 1), some (vI a1)] [] M 0 0 Q := by
  refine wg_iload_n dX8_gain_0 rfl ?_
  refine wg_bipush dX8_gain_1 qbipush_m3 ?_
  refine wg_icmp_lt dX8_gain_3 rfl (fun c1 => ?_) (fun c1 => ?_)
  · replace h := h.1 c1
    refine wg_iconst dX8_gain_11 qiconst_m1 ?_
    exact wp_iret rfl dX8_gain_12 ⟨Nat.le_refl _, Nat.le_refl _⟩ h
  · replace h := h.2 c1
    refine wg_iload_n dX8_gain_6 rfl ?_
    refine wg_iconst dX8_gain_7 qiconst_5 ?_
    refine wg_icmp_le dX8_gain_8 rfl (fun c2 => ?_) (fun c2 => ?_)
    · replace h := h.1 c2
      refine wg_aload_n dX8_gain_13 rfl (Nat.succ_ne_zero _) ?_
      refine wg_getRe dX8_gain_14 (fl_X8_76 rfl) rfl rfl (x1 hS 10 (r := 94) (Nat.le_of_ble_eq_true rfl) nofun nofun rfl) ?_
      refine wg_aload_n dX8_gain_17 rfl (Nat.succ_ne_zero _) ?_
      have hq3 := (xlaid hS)
      refine wg_getRe dX8_gain_18 (fl_X8_28 rfl) rfl rfl rfl ?_
      refine wg_callV (I' := mX0_find) (ci := 0) (np := 1) (d' := d) (q := 94) (as := [vR (gR M 1 2)]) (st := []) dX8_gain_21 lk_X8_272 ci_X0_find rfl (Nat.le_of_ble_eq_true rfl) rfl rfl (Nat.le_of_ble_eq_true rfl) rfl (Nat.le_refl _) ⟨Nat.le_refl _, Nat.le_refl _⟩ h (fun v M4 h => ?_)
      obtain ⟨r5, rfl, hS, h⟩ := h
      refine wg_if_ne dX8_gain_24 rfl (fun c6 => ?_) (fun c6 => ?_)
      · replace h := h.1 c6
        refine wg_iload_n dX8_gain_30 rfl ?_
        by_cases c0 : a1 = (-3)
        · replace h := h.1 c0
          refine wg_tableIn dX8_gain_31 (by omega) (by omega) (off := 25) (by rw [c0]; decide) rfl ?_
          refine wg_aload_n dX8_gain_56 rfl (Nat.succ_ne_zero _) ?_
          refine wg_getRe dX8_gain_57 (fl_X8_76 rfl) rfl rfl (x1 hS 10 (r := 94) (Nat.le_of_ble_eq_true rfl) nofun nofun rfl) ?_
          refine wg_callV (I' := mX0_below) (ci := 0) (np := 0) (d' := d) (q := 94) (as := []) (st := []) dX8_gain_60 lk_X8_276 ci_X0_below rfl (Nat.le_of_ble_eq_true rfl) rfl rfl (Nat.le_of_ble_eq_true rfl) rfl (Nat.le_refl _) ⟨Nat.le_refl _, Nat.le_refl _⟩ h (fun v M7 h => ?_)
          obtain ⟨r8, rfl, hS, h⟩ := h
          exact wp_iret rfl dX8_gain_63 ⟨Nat.le_refl _, Nat.le_refl _⟩ h
        by_cases c1 : a1 = (-2)
        · replace h := h.2.1 c1
          refine wg_tableIn dX8_gain_31 (by omega) (by omega) (off := 33) (by rw [c1]; decide) rfl ?_
          refine wg_aload_n dX8_gain_64 rfl (Nat.succ_ne_zero _) ?_
          refine wg_getRe dX8_gain_65 (fl_X8_76 rfl) rfl rfl (x1 hS 10 (r := 94) (Nat.le_of_ble_eq_true rfl) nofun nofun rfl) ?_
          refine wg_callV (I' := mX0_above) (ci := 0) (np := 0) (d' := d) (q := 94) (as := []) (st := []) dX8_gain_68 lk_X8_279 ci_X0_above rfl (Nat.le_of_ble_eq_true rfl) rfl rfl (Nat.le_of_ble_eq_true rfl) rfl (Nat.le_refl _) ⟨Nat.le_refl _, Nat.le_refl _⟩ h (fun v M9 h => ?_)
          obtain ⟨r10, rfl, hS, h⟩ := h
          exact wp_iret rfl dX8_gain_71 ⟨Nat.le_refl _, Nat.le_refl _⟩ h
        by_cases c2 : a1 = (-1)
        · replace h := h.2.2.1 c2
          refine wg_tableIn dX8_gain_31 (by omega) (by omega) (off := 41) (by rw [c2]; decide) rfl ?_
          refine wg_aload_n dX8_gain_72 rfl (Nat.succ_ne_zero _) ?_
          refine wg_getRe dX8_gain_73 (fl_X8_76 rfl) rfl rfl (x1 hS 10 (r := 94) (Nat.le_of_ble_eq_true rfl) nofun nofun rfl) ?_
          refine wg_getI dX8_gain_76 (fl_X8_282 rfl) rfl rfl ?_
          exact wp_iret rfl dX8_gain_79 ⟨Nat.le_refl _, Nat.le_refl _⟩ h
        have hc : a1 < (-3) ∨ (-1) < a1 := by omega
        replace h := h.2.2.2 hc
        refine wg_tableOut dX8_gain_31 hc rfl ?_
        refine wg_aload_n dX8_gain_80 rfl (Nat.succ_ne_zero _) ?_
        refine wg_getRe dX8_gain_81 (fl_X8_76 rfl) rfl rfl (x1 hS 10 (r := 94) (Nat.le_of_ble_eq_true rfl) nofun nofun rfl) ?_
        refine wg_iload_n dX8_gain_84 rfl ?_
        refine wg_callV (I' := mX0_exchangeAt) (ci := 0) (np := 1) (d' := d) (q := 94) (as := [vI a1]) (st := []) dX8_gain_85 lk_X8_284 ci_X0_exchangeAt rfl (Nat.le_of_ble_eq_true rfl) rfl rfl (Nat.le_of_ble_eq_true rfl) rfl (Nat.le_refl _) ⟨Nat.le_refl _, Nat.le_refl _⟩ h (fun v M11 h => ?_)
        obtain ⟨r12, rfl, hS, h⟩ := h
        exact wp_iret rfl dX8_gain_88 ⟨Nat.le_refl _, Nat.le_refl _⟩ h
      · replace h := h.2 c6
        refine wg_bipush dX8_gain_27 qbipush_m4 ?_
        exact wp_iret rfl dX8_gain_29 ⟨Nat.le_refl _, Nat.le_refl _⟩ h
    · replace h := h.2 c2
      refine wg_iconst dX8_gain_11 qiconst_m1 ?_
      exact wp_iret rfl dX8_gain_12 ⟨Nat.le_refl _, Nat.le_refl _⟩ h
set_option maxRecDepth 100000 in
theorem bX8_row_0 {G : GG} {d : Nat} {M : MM} {Q : Option AV → MM → Prop} (a1 : Int) (a2 : Int) (a3 : Int) (hS : ShX M) (h :
(a1 < 0 →
(Q (some (vI (-1))) M)) ∧
(¬ (a1 < 0) →
((9999 < a1 →
(Q (some (vI (-1))) M)) ∧
(¬ (9999 < a1) →
((a2 < 1 →
(Q (some (vI (-1))) M)) ∧
(¬ (a2 < 1) →
(((if 40 < a2 then (0 : Int) else 1) = 0 →
(Q (some (vI (-1))) M)) ∧
(¬ ((if 40 < a2 then (0 : Int) else 1) = 0) →
((a3 < 0 →
(Q (some (vI (-1))) M)) ∧
(¬ (a3 < 0) →
((a3 ≤ 1 →
(Ok G mX5_copyFrom d 0 0 [vR 39, vR 35] M (fun v M8 => v = none ∧ ShX M8 ∧ 
(Wp G mX8_row (d + 1) 0 0 62 [some (vR 1), some (vI a1), some (vI a2), some (vI a3), none, some (vI 0), some (vI 0)] [] M8 0 0 Q)))) ∧
(¬ (a3 ≤ 1) →
(Q (some (vI (-1))) M))))))))))))) :
  Wp G mX8_row (d + 1) 0 0 0 [some (vR 1), some (vI a1), some (vI a2), some (vI a3), none, none, none] [] M 0 0 Q := by
  refine wg_iload_n dX8_row_0 rfl ?_
  refine wg_if_lt dX8_row_1 rfl (fun c1 => ?_) (fun c1 => ?_)
  · replace h := h.1 c1
    refine wg_iconst dX8_row_26 qiconst_0 ?_
    refine wg_istore (L' := [some (vR 1), some (vI a1), some (vI a2), some (vI a3), some (vI 0), none, none]) dX8_row_27 (Nat.le_of_ble_eq_true rfl) rfl ?_
    refine wg_iload dX8_row_29 rfl ?_
    refine wg_if_eq dX8_row_31 rfl (fun _ => ?_) (fun c => absurd c (by decide))
    refine wg_iconst dX8_row_43 qiconst_m1 ?_
    exact wp_iret rfl dX8_row_44 ⟨Nat.le_refl _, Nat.le_refl _⟩ h
  · replace h := h.2 c1
    refine wg_iload_n dX8_row_4 rfl ?_
    refine wg_sipush dX8_row_5 qsipush_9999 ?_
    refine wg_icmp_gt dX8_row_8 rfl (fun c2 => ?_) (fun c2 => ?_)
    · replace h := h.1 c2
      refine wg_iconst dX8_row_26 qiconst_0 ?_
      refine wg_istore (L' := [some (vR 1), some (vI a1), some (vI a2), some (vI a3), some (vI 0), none, none]) dX8_row_27 (Nat.le_of_ble_eq_true rfl) rfl ?_
      refine wg_iload dX8_row_29 rfl ?_
      refine wg_if_eq dX8_row_31 rfl (fun _ => ?_) (fun c => absurd c (by decide))
      refine wg_iconst dX8_row_43 qiconst_m1 ?_
      exact wp_iret rfl dX8_row_44 ⟨Nat.le_refl _, Nat.le_refl _⟩ h
    · replace h := h.2 c2
      refine wg_iload_n dX8_row_11 rfl ?_
      refine wg_iconst dX8_row_12 qiconst_1 ?_
      refine wg_icmp_lt dX8_row_13 rfl (fun c3 => ?_) (fun c3 => ?_)
      · replace h := h.1 c3
        refine wg_iconst dX8_row_26 qiconst_0 ?_
        refine wg_istore (L' := [some (vR 1), some (vI a1), some (vI a2), some (vI a3), some (vI 0), none, none]) dX8_row_27 (Nat.le_of_ble_eq_true rfl) rfl ?_
        refine wg_iload dX8_row_29 rfl ?_
        refine wg_if_eq dX8_row_31 rfl (fun _ => ?_) (fun c => absurd c (by decide))
        refine wg_iconst dX8_row_43 qiconst_m1 ?_
        exact wp_iret rfl dX8_row_44 ⟨Nat.le_refl _, Nat.le_refl _⟩ h
      · replace h := h.2 c3
        refine wg_iload_n dX8_row_16 rfl ?_
        refine wg_bipush dX8_row_17 qbipush_40 ?_
        have hJ9 : Wp G mX8_row (d + 1) 0 0 27 [some (vR 1), some (vI a1), some (vI a2), some (vI a3), none, none, none] [vI (if 40 < a2 then (0 : Int) else 1)] M 0 0 Q := by
          refine wg_istore (L' := [some (vR 1), some (vI a1), some (vI a2), some (vI a3), some (vI (if 40 < a2 then (0 : Int) else 1)), none, none]) dX8_row_27 (Nat.le_of_ble_eq_true rfl) rfl ?_
          refine wg_iload dX8_row_29 rfl ?_
          refine wg_if_eq dX8_row_31 rfl (fun c5 => ?_) (fun c5 => ?_)
          · replace h := h.1 c5
            refine wg_iconst dX8_row_43 qiconst_m1 ?_
            exact wp_iret rfl dX8_row_44 ⟨Nat.le_refl _, Nat.le_refl _⟩ h
          · replace h := h.2 c5
            refine wg_iload_n dX8_row_34 rfl ?_
            refine wg_if_lt dX8_row_35 rfl (fun c6 => ?_) (fun c6 => ?_)
            · replace h := h.1 c6
              refine wg_iconst dX8_row_43 qiconst_m1 ?_
              exact wp_iret rfl dX8_row_44 ⟨Nat.le_refl _, Nat.le_refl _⟩ h
            · replace h := h.2 c6
              refine wg_iload_n dX8_row_38 rfl ?_
              refine wg_iconst dX8_row_39 qiconst_1 ?_
              refine wg_icmp_le dX8_row_40 rfl (fun c7 => ?_) (fun c7 => ?_)
              · replace h := h.1 c7
                refine wg_aload_n dX8_row_45 rfl (Nat.succ_ne_zero _) ?_
                refine wg_getRe dX8_row_46 (fl_X8_49 rfl) rfl rfl (x1 hS 6 (r := 39) (Nat.le_of_ble_eq_true rfl) nofun nofun rfl) ?_
                refine wg_aload_n dX8_row_49 rfl (Nat.succ_ne_zero _) ?_
                refine wg_getRe dX8_row_50 (fl_X8_45 rfl) rfl rfl (x1 hS 5 (r := 35) (Nat.le_of_ble_eq_true rfl) nofun nofun rfl) ?_
                refine wg_callV (I' := mX5_copyFrom) (ci := 5) (np := 1) (d' := d) (q := 39) (as := [vR 35]) (st := []) dX8_row_53 lk_X8_287 ci_X5_copyFrom rfl (Nat.le_of_ble_eq_true rfl) rfl rfl (Nat.le_of_ble_eq_true rfl) rfl (Nat.le_refl _) ⟨Nat.le_refl _, Nat.le_refl _⟩ h (fun v M8 h => ?_)
                obtain ⟨rfl, hS, h⟩ := h
                refine wg_iconst dX8_row_56 qiconst_0 ?_
                refine wg_istore (L' := [some (vR 1), some (vI a1), some (vI a2), some (vI a3), some (vI (if 40 < a2 then (0 : Int) else 1)), some (vI 0), none]) dX8_row_57 (Nat.le_of_ble_eq_true rfl) rfl ?_
                refine wg_iconst dX8_row_59 qiconst_0 ?_
                refine wg_istore (L' := [some (vR 1), some (vI a1), some (vI a2), some (vI a3), some (vI (if 40 < a2 then (0 : Int) else 1)), some (vI 0), some (vI 0)]) dX8_row_60 (Nat.le_of_ble_eq_true rfl) rfl ?_
                refine wg_weak [true, true, true, true, false, true, true] rfl ?_
                exact h
              · replace h := h.2 c7
                refine wg_iconst dX8_row_43 qiconst_m1 ?_
                exact wp_iret rfl dX8_row_44 ⟨Nat.le_refl _, Nat.le_refl _⟩ h
        refine wg_icmp_gt dX8_row_19 rfl (fun c4 => ?_) (fun c4 => ?_)
        · rw [show (if 40 < a2 then (0 : Int) else 1) = 0 from if_pos c4] at hJ9
          refine wg_iconst dX8_row_26 qiconst_0 ?_
          exact hJ9
        · rw [show (if 40 < a2 then (0 : Int) else 1) = 1 from if_neg c4] at hJ9
          refine wg_iconst dX8_row_22 qiconst_1 ?_
          refine wg_goto dX8_row_23 rfl ?_
          exact hJ9
set_option maxRecDepth 100000 in
theorem bX8_row_62 {G : GG} {d : Nat} {M : MM} {Q : Option AV → MM → Prop} (a1 : Int) (a2 : Int) (a3 : Int) (s5 : Int) (s6 : Int) (hS : ShX M) (h :
(a2 ≤ s6 →
((a3 ≠ 0 →
(Q (some (vI s5)) M)) ∧
(a3 = 0 →
(Ok G mX8_missedIn d 0 0 [vR 1, vR 39] M (fun v M3 => ∃ r4 : Int, v = some (vI r4) ∧ ShX M3 ∧ 
(Q (some (vI r4)) M3)))))) ∧
(¬ (a2 ≤ s6) →
(Ok G mX8_draw d 0 0 [vI a1, vI s6] M (fun v M5 => ∃ r6 : Int, v = some (vI r6) ∧ ShX M5 ∧ 
(Ok G mX8_actByDraw d 0 0 [vR 1, vR 39, vI r6] M5 (fun v M7 => v = none ∧ ShX M7 ∧ 
(Ok G mX5_passDay d 0 0 [vR 39, vR (gR M7 1 2), vR 30] M7 (fun v M9 => ∃ r10 : Int, v = some (vI r10) ∧ ShX M9 ∧ 
(R32 (s5 + r10) ∧
(R32 (s6 + 1) ∧
(Wp G mX8_row (d + 1) 0 0 62 [some (vR 1), some (vI a1), some (vI a2), some (vI a3), none, some (vI (s5 + r10)), some (vI (s6 + 1))] [] M9 0 0 Q))))))))))) :
  Wp G mX8_row (d + 1) 0 0 62 [some (vR 1), some (vI a1), some (vI a2), some (vI a3), none, some (vI s5), some (vI s6)] [] M 0 0 Q := by
  refine wg_iload dX8_row_62 rfl ?_
  refine wg_iload_n dX8_row_64 rfl ?_
  refine wg_icmp_ge dX8_row_65 rfl (fun c1 => ?_) (fun c1 => ?_)
  · replace h := h.1 c1
    refine wg_iload_n dX8_row_108 rfl ?_
    refine wg_if_ne dX8_row_109 rfl (fun c2 => ?_) (fun c2 => ?_)
    · replace h := h.1 c2
      refine wg_iload dX8_row_123 rfl ?_
      exact wp_iret rfl dX8_row_125 ⟨Nat.le_refl _, Nat.le_refl _⟩ h
    · replace h := h.2 c2
      refine wg_aload_n dX8_row_112 rfl (Nat.succ_ne_zero _) ?_
      refine wg_aload_n dX8_row_113 rfl (Nat.succ_ne_zero _) ?_
      refine wg_getRe dX8_row_114 (fl_X8_49 rfl) rfl rfl (x1 hS 6 (r := 39) (Nat.le_of_ble_eq_true rfl) nofun nofun rfl) ?_
      refine wg_callV (I' := mX8_missedIn) (ci := 8) (np := 1) (d' := d) (q := 1) (as := [vR 39]) (st := []) dX8_row_117 lk_X8_184 ci_X8_missedIn rfl (Nat.le_of_ble_eq_true rfl) rfl rfl (Nat.le_of_ble_eq_true rfl) rfl (Nat.le_refl _) ⟨Nat.le_refl _, Nat.le_refl _⟩ h (fun v M3 h => ?_)
      obtain ⟨r4, rfl, hS, h⟩ := h
      refine wg_goto dX8_row_120 rfl ?_
      exact wp_iret rfl dX8_row_125 ⟨Nat.le_refl _, Nat.le_refl _⟩ h
  · replace h := h.2 c1
    refine wg_aload_n dX8_row_68 rfl (Nat.succ_ne_zero _) ?_
    refine wg_aload_n dX8_row_69 rfl (Nat.succ_ne_zero _) ?_
    refine wg_getRe dX8_row_70 (fl_X8_49 rfl) rfl rfl (x1 hS 6 (r := 39) (Nat.le_of_ble_eq_true rfl) nofun nofun rfl) ?_
    refine wg_iload_n dX8_row_73 rfl ?_
    refine wg_iload dX8_row_74 rfl ?_
    refine wg_callS (I' := mX8_draw) (np := 2) (d' := d) (as := [vI a1, vI s6]) (st := [vR 39, vR 1]) dX8_row_76 lk_X8_290 ci_X8_draw rfl rfl (Nat.le_of_ble_eq_true rfl) (Nat.le_refl _) ⟨Nat.le_refl _, Nat.le_refl _⟩ h (fun v M5 h => ?_)
    obtain ⟨r6, rfl, hS, h⟩ := h
    refine wg_callV (I' := mX8_actByDraw) (ci := 8) (np := 2) (d' := d) (q := 1) (as := [vR 39, vI r6]) (st := []) dX8_row_79 lk_X8_293 ci_X8_actByDraw rfl (Nat.le_of_ble_eq_true rfl) rfl rfl (Nat.le_of_ble_eq_true rfl) rfl (Nat.le_refl _) ⟨Nat.le_refl _, Nat.le_refl _⟩ h (fun v M7 h => ?_)
    obtain ⟨rfl, hS, h⟩ := h
    refine wg_iload dX8_row_82 rfl ?_
    refine wg_aload_n dX8_row_84 rfl (Nat.succ_ne_zero _) ?_
    refine wg_getRe dX8_row_85 (fl_X8_49 rfl) rfl rfl (x1 hS 6 (r := 39) (Nat.le_of_ble_eq_true rfl) nofun nofun rfl) ?_
    refine wg_aload_n dX8_row_88 rfl (Nat.succ_ne_zero _) ?_
    have hq8 := (xlaid hS)
    refine wg_getRe dX8_row_89 (fl_X8_28 rfl) rfl rfl rfl ?_
    refine wg_aload_n dX8_row_92 rfl (Nat.succ_ne_zero _) ?_
    refine wg_getRe dX8_row_93 (fl_X8_38 rfl) rfl rfl (x1 hS 4 (r := 30) (Nat.le_of_ble_eq_true rfl) nofun nofun rfl) ?_
    refine wg_callV (I' := mX5_passDay) (ci := 5) (np := 2) (d' := d) (q := 39) (as := [vR (gR M7 1 2), vR 30]) (st := [vI s5]) dX8_row_96 lk_X8_213 ci_X5_passDay rfl (Nat.le_of_ble_eq_true rfl) rfl rfl (Nat.le_of_ble_eq_true rfl) rfl (Nat.le_refl _) ⟨Nat.le_refl _, Nat.le_refl _⟩ h (fun v M9 h => ?_)
    obtain ⟨r10, rfl, hS, h⟩ := h
    obtain ⟨o, h⟩ := h
    refine wg_iadd dX8_row_99 o ?_
    refine wg_istore (L' := [some (vR 1), some (vI a1), some (vI a2), some (vI a3), none, some (vI (s5 + r10)), some (vI s6)]) dX8_row_100 (Nat.le_of_ble_eq_true rfl) rfl ?_
    obtain ⟨o, h⟩ := h
    refine wg_iinc (L' := [some (vR 1), some (vI a1), some (vI a2), some (vI a3), none, some (vI (s5 + r10)), some (vI (s6 + 1))]) dX8_row_102 (Nat.le_of_ble_eq_true rfl) rfl rfl o ?_
    refine wg_goto dX8_row_105 rfl ?_
    exact h
set_option maxRecDepth 100000 in
theorem bX8_actByDraw_0 {G : GG} {d : Nat} {M : MM} {Q : Option AV → MM → Prop} (p1 : Nat) (hk1 : kd p1 = 5) (a2 : Int) (hS : ShX M) (h :
(1 ≤ (gI M (gR M 1 2) 3) →
((gI M (gR M 1 2) 3) ≠ 0 ∧
(Ok G mX5_isBound d 0 0 [vR p1, vI (Int.tmod a2 (gI M (gR M 1 2) 3))] M (fun v M4 => ∃ r5 : Int, v = some (vI r5) ∧ ShX M4 ∧ 
((r5 ≠ 0 →
(R32 (Int.tdiv a2 8) ∧
((((Int.tmod (Int.tdiv a2 8) 4) ≠ 0 →
(Q none M4)) ∧
((Int.tmod (Int.tdiv a2 8) 4) = 0 →
(Ok G mX5_untie d 0 0 [vR p1, vI (Int.tmod a2 (gI M (gR M 1 2) 3))] M4 (fun v M9 => v = none ∧ ShX M9 ∧ 
(Q none M9)))))))) ∧
(r5 = 0 →
(Ok G mX7_pullOfBeast d 0 0 [vR (gR M4 1 2), vI (Int.tmod a2 (gI M (gR M 1 2) 3))] M4 (fun v M11 => ∃ r12 : Int, v = some (vI r12) ∧ ShX M11 ∧ 
(Ok G mX5_gone d 0 0 [vR p1] M11 (fun v M13 => ∃ r14 : Int, v = some (vI r14) ∧ ShX M13 ∧ 
(Ok G mX3_findLeast d 0 0 [vR 87, vI r12, vI r14] M13 (fun v M15 => ∃ r16 : Int, v = some (vI r16) ∧ ShX M15 ∧ 
((r16 = 0 →
(Q none M15)) ∧
(¬ (r16 = 0) →
(Ok G mX5_tie d 0 0 [vR p1, vI (Int.tmod a2 (gI M (gR M 1 2) 3)), vI (gI M15 87 0)] M15 (fun v M18 => v = none ∧ ShX M18 ∧ 
(Q none M18))))))))))))))))) ∧
(¬ (1 ≤ (gI M (gR M 1 2) 3)) →
(Q none M))) :
  Wp G mX8_actByDraw (d + 1) 0 0 0 [some (vR 1), some (vR p1), some (vI a2), none] [] M 0 0 Q := by
  refine wg_aload_n dX8_actByDraw_0 rfl (Nat.succ_ne_zero _) ?_
  have hq1 := (xlaid hS)
  refine wg_getRe dX8_actByDraw_1 (fl_X8_28 rfl) rfl rfl rfl ?_
  refine wg_getI dX8_actByDraw_4 (fl_X8_114 rfl) rfl hq1 ?_
  refine wg_iconst dX8_actByDraw_7 qiconst_1 ?_
  refine wg_icmp_ge dX8_actByDraw_8 rfl (fun c2 => ?_) (fun c2 => ?_)
  · replace h := h.1 c2
    refine wg_iload_n dX8_actByDraw_12 rfl ?_
    refine wg_aload_n dX8_actByDraw_13 rfl (Nat.succ_ne_zero _) ?_
    have hq3 := (xlaid hS)
    refine wg_getRe dX8_actByDraw_14 (fl_X8_28 rfl) rfl rfl rfl ?_
    refine wg_getI dX8_actByDraw_17 (fl_X8_114 rfl) rfl hq3 ?_
    obtain ⟨o1, h⟩ := h
    refine wg_irem dX8_actByDraw_20 o1 ?_
    refine wg_istore_n (L' := [some (vR 1), some (vR p1), some (vI a2), some (vI (Int.tmod a2 (gI M (gR M 1 2) 3)))]) dX8_actByDraw_21 (Nat.le_of_ble_eq_true rfl) rfl ?_
    refine wg_aload_n dX8_actByDraw_22 rfl (kn5 hk1) ?_
    refine wg_iload_n dX8_actByDraw_23 rfl ?_
    refine wg_callV (I' := mX5_isBound) (ci := 5) (np := 1) (d' := d) (q := p1) (as := [vI (Int.tmod a2 (gI M (gR M 1 2) 3))]) (st := []) dX8_actByDraw_24 lk_X8_166 ci_X5_isBound rfl (Nat.le_of_ble_eq_true rfl) rfl rfl (Nat.le_of_ble_eq_true rfl) hk1 (Nat.le_refl _) ⟨Nat.le_refl _, Nat.le_refl _⟩ h (fun v M4 h => ?_)
    obtain ⟨r5, rfl, hS, h⟩ := h
    refine wg_if_ne dX8_actByDraw_27 rfl (fun c7 => ?_) (fun c7 => ?_)
    · replace h := h.1 c7
      refine wg_iload_n dX8_actByDraw_67 rfl ?_
      refine wg_bipush dX8_actByDraw_68 qbipush_8 ?_
      obtain ⟨o, h⟩ := h
      refine wg_idiv dX8_actByDraw_70 (by decide) o ?_
      refine wg_iconst dX8_actByDraw_71 qiconst_4 ?_
      refine wg_irem dX8_actByDraw_72 (by decide) ?_
      refine wg_if_ne dX8_actByDraw_73 rfl (fun c8 => ?_) (fun c8 => ?_)
      · replace h := h.1 c8
        exact wp_vret rfl dX8_actByDraw_81 ⟨Nat.le_refl _, Nat.le_refl _⟩ h
      · replace h := h.2 c8
        refine wg_aload_n dX8_actByDraw_76 rfl (kn5 hk1) ?_
        refine wg_iload_n dX8_actByDraw_77 rfl ?_
        refine wg_callV (I' := mX5_untie) (ci := 5) (np := 1) (d' := d) (q := p1) (as := [vI (Int.tmod a2 (gI M (gR M 1 2) 3))]) (st := []) dX8_actByDraw_78 lk_X8_207 ci_X5_untie rfl (Nat.le_of_ble_eq_true rfl) rfl rfl (Nat.le_of_ble_eq_true rfl) hk1 (Nat.le_refl _) ⟨Nat.le_refl _, Nat.le_refl _⟩ h (fun v M9 h => ?_)
        obtain ⟨rfl, hS, h⟩ := h
        exact wp_vret rfl dX8_actByDraw_81 ⟨Nat.le_refl _, Nat.le_refl _⟩ h
    · replace h := h.2 c7
      refine wg_aload_n dX8_actByDraw_30 rfl (Nat.succ_ne_zero _) ?_
      refine wg_getRe dX8_actByDraw_31 (fl_X8_69 rfl) rfl rfl (x1 hS 9 (r := 87) (Nat.le_of_ble_eq_true rfl) nofun nofun rfl) ?_
      refine wg_aload_n dX8_actByDraw_34 rfl (Nat.succ_ne_zero _) ?_
      have hq10 := (xlaid hS)
      refine wg_getRe dX8_actByDraw_35 (fl_X8_28 rfl) rfl rfl rfl ?_
      refine wg_iload_n dX8_actByDraw_38 rfl ?_
      refine wg_callV (I' := mX7_pullOfBeast) (ci := 7) (np := 1) (d' := d) (q := gR M4 1 2) (as := [vI (Int.tmod a2 (gI M (gR M 1 2) 3))]) (st := [vR 87]) dX8_actByDraw_39 lk_X8_160 ci_X7_pullOfBeast rfl (Nat.le_of_ble_eq_true rfl) rfl rfl (Nat.le_of_ble_eq_true rfl) hq10 (Nat.le_refl _) ⟨Nat.le_refl _, Nat.le_refl _⟩ h (fun v M11 h => ?_)
      obtain ⟨r12, rfl, hS, h⟩ := h
      refine wg_aload_n dX8_actByDraw_42 rfl (kn5 hk1) ?_
      refine wg_callV (I' := mX5_gone) (ci := 5) (np := 0) (d' := d) (q := p1) (as := []) (st := [vI r12, vR 87]) dX8_actByDraw_43 lk_X8_188 ci_X5_gone rfl (Nat.le_of_ble_eq_true rfl) rfl rfl (Nat.le_of_ble_eq_true rfl) hk1 (Nat.le_refl _) ⟨Nat.le_refl _, Nat.le_refl _⟩ h (fun v M13 h => ?_)
      obtain ⟨r14, rfl, hS, h⟩ := h
      refine wg_callV (I' := mX3_findLeast) (ci := 3) (np := 2) (d' := d) (q := 87) (as := [vI r12, vI r14]) (st := []) dX8_actByDraw_46 lk_X8_226 ci_X3_findLeast rfl (Nat.le_of_ble_eq_true rfl) rfl rfl (Nat.le_of_ble_eq_true rfl) rfl (Nat.le_refl _) ⟨Nat.le_refl _, Nat.le_refl _⟩ h (fun v M15 h => ?_)
      obtain ⟨r16, rfl, hS, h⟩ := h
      refine wg_if_eq dX8_actByDraw_49 rfl (fun c17 => ?_) (fun c17 => ?_)
      · replace h := h.1 c17
        exact wp_vret rfl dX8_actByDraw_81 ⟨Nat.le_refl _, Nat.le_refl _⟩ h
      · replace h := h.2 c17
        refine wg_aload_n dX8_actByDraw_52 rfl (kn5 hk1) ?_
        refine wg_iload_n dX8_actByDraw_53 rfl ?_
        refine wg_aload_n dX8_actByDraw_54 rfl (Nat.succ_ne_zero _) ?_
        refine wg_getRe dX8_actByDraw_55 (fl_X8_69 rfl) rfl rfl (x1 hS 9 (r := 87) (Nat.le_of_ble_eq_true rfl) nofun nofun rfl) ?_
        refine wg_getI dX8_actByDraw_58 (fl_X8_230 rfl) rfl rfl ?_
        refine wg_callV (I' := mX5_tie) (ci := 5) (np := 2) (d' := d) (q := p1) (as := [vI (Int.tmod a2 (gI M (gR M 1 2) 3)), vI (gI M15 87 0)]) (st := []) dX8_actByDraw_61 lk_X8_198 ci_X5_tie rfl (Nat.le_of_ble_eq_true rfl) rfl rfl (Nat.le_of_ble_eq_true rfl) hk1 (Nat.le_refl _) ⟨Nat.le_refl _, Nat.le_refl _⟩ h (fun v M18 h => ?_)
        obtain ⟨rfl, hS, h⟩ := h
        refine wg_goto dX8_actByDraw_64 rfl ?_
        exact wp_vret rfl dX8_actByDraw_81 ⟨Nat.le_refl _, Nat.le_refl _⟩ h
  · replace h := h.2 c2
    exact wp_vret rfl dX8_actByDraw_11 ⟨Nat.le_refl _, Nat.le_refl _⟩ h
set_option maxRecDepth 100000 in
theorem bX8_keep_0 {G : GG} {d : Nat} {M : MM} {Q : Option AV → MM → Prop} (hS : ShX M) (h :
Ok G mX2_size d 0 0 [vR 77] M (fun v M1 => ∃ r2 : Int, v = some (vI r2) ∧ ShX M1 ∧ 
((r2 < 2 →
(Ok G mX2_push d 0 0 [vR 77, vR 35] M1 (fun v M4 => v = none ∧ ShX M4 ∧ 
(Ok G mX2_size d 0 0 [vR 77] M4 (fun v M5 => ∃ r6 : Int, v = some (vI r6) ∧ ShX M5 ∧ 
(Q (some (vI r6)) M5)))))) ∧
(¬ (r2 < 2) →
(Q (some (vI (-3))) M1))))) :
  Wp G mX8_keep (d + 1) 0 0 0 [some (vR 1)] [] M 0 0 Q := by
  refine wg_aload_n dX8_keep_0 rfl (Nat.succ_ne_zero _) ?_
  refine wg_getRe dX8_keep_1 (fl_X8_61 rfl) rfl rfl (x1 hS 8 (r := 77) (Nat.le_of_ble_eq_true rfl) nofun nofun rfl) ?_
  refine wg_callV (I' := mX2_size) (ci := 2) (np := 0) (d' := d) (q := 77) (as := []) (st := []) dX8_keep_4 lk_X8_221 ci_X2_size rfl (Nat.le_of_ble_eq_true rfl) rfl rfl (Nat.le_of_ble_eq_true rfl) rfl (Nat.le_refl _) ⟨Nat.le_refl _, Nat.le_refl _⟩ h (fun v M1 h => ?_)
  obtain ⟨r2, rfl, hS, h⟩ := h
  refine wg_iconst dX8_keep_7 qiconst_2 ?_
  refine wg_icmp_lt dX8_keep_8 rfl (fun c3 => ?_) (fun c3 => ?_)
  · replace h := h.1 c3
    refine wg_aload_n dX8_keep_14 rfl (Nat.succ_ne_zero _) ?_
    refine wg_getRe dX8_keep_15 (fl_X8_61 rfl) rfl rfl (x1 hS 8 (r := 77) (Nat.le_of_ble_eq_true rfl) nofun nofun rfl) ?_
    refine wg_aload_n dX8_keep_18 rfl (Nat.succ_ne_zero _) ?_
    refine wg_getRe dX8_keep_19 (fl_X8_45 rfl) rfl rfl (x1 hS 5 (r := 35) (Nat.le_of_ble_eq_true rfl) nofun nofun rfl) ?_
    refine wg_callV (I' := mX2_push) (ci := 2) (np := 1) (d' := d) (q := 77) (as := [vR 35]) (st := []) dX8_keep_22 lk_X8_194 ci_X2_push rfl (Nat.le_of_ble_eq_true rfl) rfl rfl (Nat.le_of_ble_eq_true rfl) rfl (Nat.le_refl _) ⟨Nat.le_refl _, Nat.le_refl _⟩ h (fun v M4 h => ?_)
    obtain ⟨rfl, hS, h⟩ := h
    refine wg_aload_n dX8_keep_25 rfl (Nat.succ_ne_zero _) ?_
    refine wg_getRe dX8_keep_26 (fl_X8_61 rfl) rfl rfl (x1 hS 8 (r := 77) (Nat.le_of_ble_eq_true rfl) nofun nofun rfl) ?_
    refine wg_callV (I' := mX2_size) (ci := 2) (np := 0) (d' := d) (q := 77) (as := []) (st := []) dX8_keep_29 lk_X8_221 ci_X2_size rfl (Nat.le_of_ble_eq_true rfl) rfl rfl (Nat.le_of_ble_eq_true rfl) rfl (Nat.le_refl _) ⟨Nat.le_refl _, Nat.le_refl _⟩ h (fun v M5 h => ?_)
    obtain ⟨r6, rfl, hS, h⟩ := h
    exact wp_iret rfl dX8_keep_32 ⟨Nat.le_refl _, Nat.le_refl _⟩ h
  · replace h := h.2 c3
    refine wg_bipush dX8_keep_11 qbipush_m3 ?_
    exact wp_iret rfl dX8_keep_13 ⟨Nat.le_refl _, Nat.le_refl _⟩ h
set_option maxRecDepth 100000 in
theorem bX8_restore_0 {G : GG} {d : Nat} {M : MM} {Q : Option AV → MM → Prop} (hS : ShX M) (h :
Ok G mX2_popInto d 0 0 [vR 77, vR 35] M (fun v M1 => ∃ r2 : Int, v = some (vI r2) ∧ ShX M1 ∧ 
((r2 ≠ 0 →
(Ok G mX2_clear d 0 0 [vR 43] M1 (fun v M4 => v = none ∧ ShX M4 ∧ 
(Ok G mX2_size d 0 0 [vR 77] M4 (fun v M5 => ∃ r6 : Int, v = some (vI r6) ∧ ShX M5 ∧ 
(Q (some (vI r6)) M5)))))) ∧
(r2 = 0 →
(Q (some (vI (-2))) M1))))) :
  Wp G mX8_restore (d + 1) 0 0 0 [some (vR 1)] [] M 0 0 Q := by
  refine wg_aload_n dX8_restore_0 rfl (Nat.succ_ne_zero _) ?_
  refine wg_getRe dX8_restore_1 (fl_X8_61 rfl) rfl rfl (x1 hS 8 (r := 77) (Nat.le_of_ble_eq_true rfl) nofun nofun rfl) ?_
  refine wg_aload_n dX8_restore_4 rfl (Nat.succ_ne_zero _) ?_
  refine wg_getRe dX8_restore_5 (fl_X8_45 rfl) rfl rfl (x1 hS 5 (r := 35) (Nat.le_of_ble_eq_true rfl) nofun nofun rfl) ?_
  refine wg_callV (I' := mX2_popInto) (ci := 2) (np := 1) (d' := d) (q := 77) (as := [vR 35]) (st := []) dX8_restore_8 lk_X8_217 ci_X2_popInto rfl (Nat.le_of_ble_eq_true rfl) rfl rfl (Nat.le_of_ble_eq_true rfl) rfl (Nat.le_refl _) ⟨Nat.le_refl _, Nat.le_refl _⟩ h (fun v M1 h => ?_)
  obtain ⟨r2, rfl, hS, h⟩ := h
  refine wg_if_ne dX8_restore_11 rfl (fun c3 => ?_) (fun c3 => ?_)
  · replace h := h.1 c3
    refine wg_aload_n dX8_restore_17 rfl (Nat.succ_ne_zero _) ?_
    refine wg_getRe dX8_restore_18 (fl_X8_57 rfl) rfl rfl (x1 hS 7 (r := 43) (Nat.le_of_ble_eq_true rfl) nofun nofun rfl) ?_
    refine wg_callV (I' := mX2_clear) (ci := 2) (np := 0) (d' := d) (q := 43) (as := []) (st := []) dX8_restore_21 lk_X8_122 ci_X2_clear rfl (Nat.le_of_ble_eq_true rfl) rfl rfl (Nat.le_of_ble_eq_true rfl) rfl (Nat.le_refl _) ⟨Nat.le_refl _, Nat.le_refl _⟩ h (fun v M4 h => ?_)
    obtain ⟨rfl, hS, h⟩ := h
    refine wg_aload_n dX8_restore_24 rfl (Nat.succ_ne_zero _) ?_
    refine wg_getRe dX8_restore_25 (fl_X8_61 rfl) rfl rfl (x1 hS 8 (r := 77) (Nat.le_of_ble_eq_true rfl) nofun nofun rfl) ?_
    refine wg_callV (I' := mX2_size) (ci := 2) (np := 0) (d' := d) (q := 77) (as := []) (st := []) dX8_restore_28 lk_X8_221 ci_X2_size rfl (Nat.le_of_ble_eq_true rfl) rfl rfl (Nat.le_of_ble_eq_true rfl) rfl (Nat.le_refl _) ⟨Nat.le_refl _, Nat.le_refl _⟩ h (fun v M5 h => ?_)
    obtain ⟨r6, rfl, hS, h⟩ := h
    exact wp_iret rfl dX8_restore_31 ⟨Nat.le_refl _, Nat.le_refl _⟩ h
  · replace h := h.2 c3
    refine wg_bipush dX8_restore_14 qbipush_m2 ?_
    exact wp_iret rfl dX8_restore_16 ⟨Nat.le_refl _, Nat.le_refl _⟩ h
set_option maxRecDepth 100000 in
theorem bX8_count_0 {G : GG} {d : Nat} {M : MM} {Q : Option AV → MM → Prop} (a1 : Int) (hS : ShX M) (h :
(a1 = 0 →
(Q (some (vI (gI M (gR M 1 2) 0))) M)) ∧
(a1 = 1 →
(Q (some (vI (gI M (gR M 1 2) 1))) M)) ∧
(a1 = 2 →
(Q (some (vI (gI M (gR M 1 2) 2))) M)) ∧
(a1 = 3 →
(Q (some (vI (gI M (gR M 1 2) 3))) M)) ∧
(a1 = 4 →
(Q (some (vI (gI M (gR M 1 2) 4))) M)) ∧
(a1 = 5 →
(Q (some (vI (gI M 35 0))) M)) ∧
(a1 = 6 →
(Ok G mX2_size d 0 0 [vR 43] M (fun v M6 => ∃ r7 : Int, v = some (vI r7) ∧ ShX M6 ∧ 
(Q (some (vI r7)) M6)))) ∧
(a1 = 7 →
(Ok G mX2_size d 0 0 [vR 77] M (fun v M8 => ∃ r9 : Int, v = some (vI r9) ∧ ShX M8 ∧ 
(Q (some (vI r9)) M8)))) ∧
(a1 = 8 →
(Ok G mX1_size d 0 0 [vR 2] M (fun v M10 => ∃ r11 : Int, v = some (vI r11) ∧ ShX M10 ∧ 
(Q (some (vI r11)) M10)))) ∧
((a1 < 0 ∨ 8 < a1) →
(Q (some (vI (-1))) M))) :
  Wp G mX8_count (d + 1) 0 0 0 [some (vR 1), some (vI a1)] [] M 0 0 Q := by
  refine wg_iload_n dX8_count_0 rfl ?_
  by_cases c0 : a1 = 0
  · replace h := h.1 c0
    refine wg_tableIn dX8_count_1 (by omega) (by omega) (off := 51) (by rw [c0]; decide) rfl ?_
    refine wg_aload_n dX8_count_52 rfl (Nat.succ_ne_zero _) ?_
    have hq1 := (xlaid hS)
    refine wg_getRe dX8_count_53 (fl_X8_28 rfl) rfl rfl rfl ?_
    refine wg_getI dX8_count_56 (fl_X8_110 rfl) rfl hq1 ?_
    exact wp_iret rfl dX8_count_59 ⟨Nat.le_refl _, Nat.le_refl _⟩ h
  by_cases c1 : a1 = 1
  · replace h := h.2.1 c1
    refine wg_tableIn dX8_count_1 (by omega) (by omega) (off := 59) (by rw [c1]; decide) rfl ?_
    refine wg_aload_n dX8_count_60 rfl (Nat.succ_ne_zero _) ?_
    have hq2 := (xlaid hS)
    refine wg_getRe dX8_count_61 (fl_X8_28 rfl) rfl rfl rfl ?_
    refine wg_getI dX8_count_64 (fl_X8_297 rfl) rfl hq2 ?_
    exact wp_iret rfl dX8_count_67 ⟨Nat.le_refl _, Nat.le_refl _⟩ h
  by_cases c2 : a1 = 2
  · replace h := h.2.2.1 c2
    refine wg_tableIn dX8_count_1 (by omega) (by omega) (off := 67) (by rw [c2]; decide) rfl ?_
    refine wg_aload_n dX8_count_68 rfl (Nat.succ_ne_zero _) ?_
    have hq3 := (xlaid hS)
    refine wg_getRe dX8_count_69 (fl_X8_28 rfl) rfl rfl rfl ?_
    refine wg_getI dX8_count_72 (fl_X8_139 rfl) rfl hq3 ?_
    exact wp_iret rfl dX8_count_75 ⟨Nat.le_refl _, Nat.le_refl _⟩ h
  by_cases c3 : a1 = 3
  · replace h := h.2.2.2.1 c3
    refine wg_tableIn dX8_count_1 (by omega) (by omega) (off := 75) (by rw [c3]; decide) rfl ?_
    refine wg_aload_n dX8_count_76 rfl (Nat.succ_ne_zero _) ?_
    have hq4 := (xlaid hS)
    refine wg_getRe dX8_count_77 (fl_X8_28 rfl) rfl rfl rfl ?_
    refine wg_getI dX8_count_80 (fl_X8_114 rfl) rfl hq4 ?_
    exact wp_iret rfl dX8_count_83 ⟨Nat.le_refl _, Nat.le_refl _⟩ h
  by_cases c4 : a1 = 4
  · replace h := h.2.2.2.2.1 c4
    refine wg_tableIn dX8_count_1 (by omega) (by omega) (off := 83) (by rw [c4]; decide) rfl ?_
    refine wg_aload_n dX8_count_84 rfl (Nat.succ_ne_zero _) ?_
    have hq5 := (xlaid hS)
    refine wg_getRe dX8_count_85 (fl_X8_28 rfl) rfl rfl rfl ?_
    refine wg_getI dX8_count_88 (fl_X8_300 rfl) rfl hq5 ?_
    exact wp_iret rfl dX8_count_91 ⟨Nat.le_refl _, Nat.le_refl _⟩ h
  by_cases c5 : a1 = 5
  · replace h := h.2.2.2.2.2.1 c5
    refine wg_tableIn dX8_count_1 (by omega) (by omega) (off := 91) (by rw [c5]; decide) rfl ?_
    refine wg_aload_n dX8_count_92 rfl (Nat.succ_ne_zero _) ?_
    refine wg_getRe dX8_count_93 (fl_X8_45 rfl) rfl rfl (x1 hS 5 (r := 35) (Nat.le_of_ble_eq_true rfl) nofun nofun rfl) ?_
    refine wg_getI dX8_count_96 (fl_X8_210 rfl) rfl rfl ?_
    exact wp_iret rfl dX8_count_99 ⟨Nat.le_refl _, Nat.le_refl _⟩ h
  by_cases c6 : a1 = 6
  · replace h := h.2.2.2.2.2.2.1 c6
    refine wg_tableIn dX8_count_1 (by omega) (by omega) (off := 99) (by rw [c6]; decide) rfl ?_
    refine wg_aload_n dX8_count_100 rfl (Nat.succ_ne_zero _) ?_
    refine wg_getRe dX8_count_101 (fl_X8_57 rfl) rfl rfl (x1 hS 7 (r := 43) (Nat.le_of_ble_eq_true rfl) nofun nofun rfl) ?_
    refine wg_callV (I' := mX2_size) (ci := 2) (np := 0) (d' := d) (q := 43) (as := []) (st := []) dX8_count_104 lk_X8_221 ci_X2_size rfl (Nat.le_of_ble_eq_true rfl) rfl rfl (Nat.le_of_ble_eq_true rfl) rfl (Nat.le_refl _) ⟨Nat.le_refl _, Nat.le_refl _⟩ h (fun v M6 h => ?_)
    obtain ⟨r7, rfl, hS, h⟩ := h
    exact wp_iret rfl dX8_count_107 ⟨Nat.le_refl _, Nat.le_refl _⟩ h
  by_cases c7 : a1 = 7
  · replace h := h.2.2.2.2.2.2.2.1 c7
    refine wg_tableIn dX8_count_1 (by omega) (by omega) (off := 107) (by rw [c7]; decide) rfl ?_
    refine wg_aload_n dX8_count_108 rfl (Nat.succ_ne_zero _) ?_
    refine wg_getRe dX8_count_109 (fl_X8_61 rfl) rfl rfl (x1 hS 8 (r := 77) (Nat.le_of_ble_eq_true rfl) nofun nofun rfl) ?_
    refine wg_callV (I' := mX2_size) (ci := 2) (np := 0) (d' := d) (q := 77) (as := []) (st := []) dX8_count_112 lk_X8_221 ci_X2_size rfl (Nat.le_of_ble_eq_true rfl) rfl rfl (Nat.le_of_ble_eq_true rfl) rfl (Nat.le_refl _) ⟨Nat.le_refl _, Nat.le_refl _⟩ h (fun v M8 h => ?_)
    obtain ⟨r9, rfl, hS, h⟩ := h
    exact wp_iret rfl dX8_count_115 ⟨Nat.le_refl _, Nat.le_refl _⟩ h
  by_cases c8 : a1 = 8
  · replace h := h.2.2.2.2.2.2.2.2.1 c8
    refine wg_tableIn dX8_count_1 (by omega) (by omega) (off := 115) (by rw [c8]; decide) rfl ?_
    refine wg_aload_n dX8_count_116 rfl (Nat.succ_ne_zero _) ?_
    refine wg_getRe dX8_count_117 (fl_X8_10 rfl) rfl rfl (x1 hS 0 (r := 2) (Nat.le_of_ble_eq_true rfl) nofun nofun rfl) ?_
    refine wg_callV (I' := mX1_size) (ci := 1) (np := 0) (d' := d) (q := 2) (as := []) (st := []) dX8_count_120 lk_X8_103 ci_X1_size rfl (Nat.le_of_ble_eq_true rfl) rfl rfl (Nat.le_of_ble_eq_true rfl) rfl (Nat.le_refl _) ⟨Nat.le_refl _, Nat.le_refl _⟩ h (fun v M10 h => ?_)
    obtain ⟨r11, rfl, hS, h⟩ := h
    exact wp_iret rfl dX8_count_123 ⟨Nat.le_refl _, Nat.le_refl _⟩ h
  have hc : a1 < 0 ∨ 8 < a1 := by omega
  replace h := h.2.2.2.2.2.2.2.2.2 hc
  refine wg_tableOut dX8_count_1 hc rfl ?_
  refine wg_iconst dX8_count_124 qiconst_m1 ?_
  exact wp_iret rfl dX8_count_125 ⟨Nat.le_refl _, Nat.le_refl _⟩ h
set_option maxRecDepth 100000 in
theorem bX8_isThing_0 {G : GG} {d : Nat} {M : MM} {Q : Option AV → MM → Prop} (a1 : Int) (hS : ShX M) (h :
(a1 < 0 →
(Q (some (vI 0)) M)) ∧
(¬ (a1 < 0) →
(((gI M (gR M 1 2) 0) ≤ a1 →
(Q (some (vI 0)) M)) ∧
(¬ ((gI M (gR M 1 2) 0) ≤ a1) →
(Q (some (vI 1)) M))))) :
  Wp G mX8_isThing d 0 0 0 [some (vR 1), some (vI a1)] [] M 0 0 Q := by
  refine wg_iload_n dX8_isThing_0 rfl ?_
  refine wg_if_lt dX8_isThing_1 rfl (fun c2 => ?_) (fun c2 => ?_)
  · replace h := h.1 c2
    refine wg_iconst dX8_isThing_19 qiconst_0 ?_
    exact wp_zret rfl dX8_isThing_20 ⟨Nat.le_refl _, Nat.le_refl _⟩ (Or.inl rfl) h
  · replace h := h.2 c2
    refine wg_iload_n dX8_isThing_4 rfl ?_
    refine wg_aload_n dX8_isThing_5 rfl (Nat.succ_ne_zero _) ?_
    have hq3 := (xlaid hS)
    refine wg_getRe dX8_isThing_6 (fl_X8_28 rfl) rfl rfl rfl ?_
    refine wg_getI dX8_isThing_9 (fl_X8_110 rfl) rfl hq3 ?_
    refine wg_icmp_ge dX8_isThing_12 rfl (fun c4 => ?_) (fun c4 => ?_)
    · replace h := h.1 c4
      refine wg_iconst dX8_isThing_19 qiconst_0 ?_
      exact wp_zret rfl dX8_isThing_20 ⟨Nat.le_refl _, Nat.le_refl _⟩ (Or.inl rfl) h
    · replace h := h.2 c4
      refine wg_iconst dX8_isThing_15 qiconst_1 ?_
      refine wg_goto dX8_isThing_16 rfl ?_
      exact wp_zret rfl dX8_isThing_20 ⟨Nat.le_refl _, Nat.le_refl _⟩ (Or.inr rfl) h
set_option maxRecDepth 100000 in
theorem bX8_isBeast_0 {G : GG} {d : Nat} {M : MM} {Q : Option AV → MM → Prop} (a1 : Int) (hS : ShX M) (h :
(a1 < 0 →
(Q (some (vI 0)) M)) ∧
(¬ (a1 < 0) →
(((gI M (gR M 1 2) 3) ≤ a1 →
(Q (some (vI 0)) M)) ∧
(¬ ((gI M (gR M 1 2) 3) ≤ a1) →
(Q (some (vI 1)) M))))) :
  Wp G mX8_isBeast d 0 0 0 [some (vR 1), some (vI a1)] [] M 0 0 Q := by
  refine wg_iload_n dX8_isBeast_0 rfl ?_
  refine wg_if_lt dX8_isBeast_1 rfl (fun c2 => ?_) (fun c2 => ?_)
  · replace h := h.1 c2
    refine wg_iconst dX8_isBeast_19 qiconst_0 ?_
    exact wp_zret rfl dX8_isBeast_20 ⟨Nat.le_refl _, Nat.le_refl _⟩ (Or.inl rfl) h
  · replace h := h.2 c2
    refine wg_iload_n dX8_isBeast_4 rfl ?_
    refine wg_aload_n dX8_isBeast_5 rfl (Nat.succ_ne_zero _) ?_
    have hq3 := (xlaid hS)
    refine wg_getRe dX8_isBeast_6 (fl_X8_28 rfl) rfl rfl rfl ?_
    refine wg_getI dX8_isBeast_9 (fl_X8_114 rfl) rfl hq3 ?_
    refine wg_icmp_ge dX8_isBeast_12 rfl (fun c4 => ?_) (fun c4 => ?_)
    · replace h := h.1 c4
      refine wg_iconst dX8_isBeast_19 qiconst_0 ?_
      exact wp_zret rfl dX8_isBeast_20 ⟨Nat.le_refl _, Nat.le_refl _⟩ (Or.inl rfl) h
    · replace h := h.2 c4
      refine wg_iconst dX8_isBeast_15 qiconst_1 ?_
      refine wg_goto dX8_isBeast_16 rfl ?_
      exact wp_zret rfl dX8_isBeast_20 ⟨Nat.le_refl _, Nat.le_refl _⟩ (Or.inr rfl) h
set_option maxRecDepth 100000 in
theorem bX8_isThere_0 {G : GG} {d : Nat} {M : MM} {Q : Option AV → MM → Prop} (a1 : Int) (hS : ShX M) (h :
Ok G mX5_gone d 0 0 [vR 35] M (fun v M1 => ∃ r2 : Int, v = some (vI r2) ∧ ShX M1 ∧ 
(Ok G mX6_thereBesides d 0 0 [vR 30, vI r2] M1 (fun v M3 => ∃ r4 : Int, v = some (vI r4) ∧ ShX M3 ∧ 
(((iandv (ishrv r4 a1) 1) ≠ 1 →
(Q (some (vI 0)) M3)) ∧
((iandv (ishrv r4 a1) 1) = 1 →
(Q (some (vI 1)) M3))))))) :
  Wp G mX8_isThere (d + 1) 0 0 0 [some (vR 1), some (vI a1)] [] M 0 0 Q := by
  refine wg_aload_n dX8_isThere_0 rfl (Nat.succ_ne_zero _) ?_
  refine wg_getRe dX8_isThere_1 (fl_X8_38 rfl) rfl rfl (x1 hS 4 (r := 30) (Nat.le_of_ble_eq_true rfl) nofun nofun rfl) ?_
  refine wg_aload_n dX8_isThere_4 rfl (Nat.succ_ne_zero _) ?_
  refine wg_getRe dX8_isThere_5 (fl_X8_45 rfl) rfl rfl (x1 hS 5 (r := 35) (Nat.le_of_ble_eq_true rfl) nofun nofun rfl) ?_
  refine wg_callV (I' := mX5_gone) (ci := 5) (np := 0) (d' := d) (q := 35) (as := []) (st := [vR 30]) dX8_isThere_8 lk_X8_188 ci_X5_gone rfl (Nat.le_of_ble_eq_true rfl) rfl rfl (Nat.le_of_ble_eq_true rfl) rfl (Nat.le_refl _) ⟨Nat.le_refl _, Nat.le_refl _⟩ h (fun v M1 h => ?_)
  obtain ⟨r2, rfl, hS, h⟩ := h
  refine wg_callV (I' := mX6_thereBesides) (ci := 6) (np := 1) (d' := d) (q := 30) (as := [vI r2]) (st := []) dX8_isThere_11 lk_X8_191 ci_X6_thereBesides rfl (Nat.le_of_ble_eq_true rfl) rfl rfl (Nat.le_of_ble_eq_true rfl) rfl (Nat.le_refl _) ⟨Nat.le_refl _, Nat.le_refl _⟩ h (fun v M3 h => ?_)
  obtain ⟨r4, rfl, hS, h⟩ := h
  refine wg_iload_n dX8_isThere_14 rfl ?_
  refine wg_ishr dX8_isThere_15 ?_
  refine wg_iconst dX8_isThere_16 qiconst_1 ?_
  refine wg_iand dX8_isThere_17 ?_
  refine wg_iconst dX8_isThere_18 qiconst_1 ?_
  refine wg_icmp_ne dX8_isThere_19 rfl (fun c5 => ?_) (fun c5 => ?_)
  · replace h := h.1 c5
    refine wg_iconst dX8_isThere_26 qiconst_0 ?_
    exact wp_zret rfl dX8_isThere_27 ⟨Nat.le_refl _, Nat.le_refl _⟩ (Or.inl rfl) h
  · replace h := h.2 c5
    refine wg_iconst dX8_isThere_22 qiconst_1 ?_
    refine wg_goto dX8_isThere_23 rfl ?_
    exact wp_zret rfl dX8_isThere_27 ⟨Nat.le_refl _, Nat.le_refl _⟩ (Or.inr rfl) h
set_option maxRecDepth 100000 in
theorem bX8_missedIn_0 {G : GG} {d : Nat} {M : MM} {Q : Option AV → MM → Prop} (p1 : Nat) (hk1 : kd p1 = 5) (hS : ShX M) (h :
Ok G mX5_found d 0 0 [vR p1, vI (gI M (gR M 1 2) 7)] M (fun v M2 => ∃ r3 : Int, v = some (vI r3) ∧ ShX M2 ∧ 
(Ok G mX6_lossOf d 0 0 [vR 30, vI r3] M2 (fun v M4 => ∃ r5 : Int, v = some (vI r5) ∧ ShX M4 ∧ 
(Q (some (vI r5)) M4))))) :
  Wp G mX8_missedIn (d + 1) 0 0 0 [some (vR 1), some (vR p1)] [] M 0 0 Q := by
  refine wg_aload_n dX8_missedIn_0 rfl (Nat.succ_ne_zero _) ?_
  refine wg_getRe dX8_missedIn_1 (fl_X8_38 rfl) rfl rfl (x1 hS 4 (r := 30) (Nat.le_of_ble_eq_true rfl) nofun nofun rfl) ?_
  refine wg_aload_n dX8_missedIn_4 rfl (kn5 hk1) ?_
  refine wg_aload_n dX8_missedIn_5 rfl (Nat.succ_ne_zero _) ?_
  have hq1 := (xlaid hS)
  refine wg_getRe dX8_missedIn_6 (fl_X8_28 rfl) rfl rfl rfl ?_
  refine wg_getI dX8_missedIn_9 (fl_X8_148 rfl) rfl hq1 ?_
  refine wg_callV (I' := mX5_found) (ci := 5) (np := 1) (d' := d) (q := p1) (as := [vI (gI M (gR M 1 2) 7)]) (st := [vR 30]) dX8_missedIn_12 lk_X8_151 ci_X5_found rfl (Nat.le_of_ble_eq_true rfl) rfl rfl (Nat.le_of_ble_eq_true rfl) hk1 (Nat.le_refl _) ⟨Nat.le_refl _, Nat.le_refl _⟩ h (fun v M2 h => ?_)
  obtain ⟨r3, rfl, hS, h⟩ := h
  refine wg_callV (I' := mX6_lossOf) (ci := 6) (np := 1) (d' := d) (q := 30) (as := [vI r3]) (st := []) dX8_missedIn_15 lk_X8_303 ci_X6_lossOf rfl (Nat.le_of_ble_eq_true rfl) rfl rfl (Nat.le_of_ble_eq_true rfl) rfl (Nat.le_refl _) ⟨Nat.le_refl _, Nat.le_refl _⟩ h (fun v M4 h => ?_)
  obtain ⟨r5, rfl, hS, h⟩ := h
  exact wp_iret rfl dX8_missedIn_18 ⟨Nat.le_refl _, Nat.le_refl _⟩ h
set_option maxRecDepth 100000 in
theorem bX8_draw_0 {G : GG} {d : Nat} {M : MM} {Q : Option AV → MM → Prop} (a0 : Int) (a1 : Int) (h :
R64 (7919 * a0) ∧
(R64 (6151 * a1) ∧
(R64 ((7919 * a0) + (6151 * a1)) ∧
(R64 (((7919 * a0) + (6151 * a1)) + 1) ∧
(R64 ((((7919 * a0) + (6151 * a1)) + 1) * (((7919 * a0) + (6151 * a1)) + 1)) ∧
((R32 (Int.tmod ((((7919 * a0) + (6151 * a1)) + 1) * (((7919 * a0) + (6151 * a1)) + 1)) 65521) ∧
(Q (some (vI (Int.tmod ((((7919 * a0) + (6151 * a1)) + 1) * (((7919 * a0) + (6151 * a1)) + 1)) 65521))) M)))))))) :
  Wp G mX8_draw d 0 0 0 [some (vI a0), some (vI a1), none, none] [] M 0 0 Q := by
  refine wg_ldc2 dX8_draw_0 kc_X8_306 ⟨by decide, by decide⟩ ?_
  refine wg_iload_n dX8_draw_3 rfl ?_
  refine wg_i2l dX8_draw_4 ?_
  obtain ⟨o, h⟩ := h
  refine wg_lmul dX8_draw_5 o ?_
  refine wg_ldc2 dX8_draw_6 kc_X8_308 ⟨by decide, by decide⟩ ?_
  refine wg_iload_n dX8_draw_9 rfl ?_
  refine wg_i2l dX8_draw_10 ?_
  obtain ⟨o, h⟩ := h
  refine wg_lmul dX8_draw_11 o ?_
  obtain ⟨o, h⟩ := h
  refine wg_ladd dX8_draw_12 o ?_
  refine wg_lconst dX8_draw_13 rfl ?_
  obtain ⟨o, h⟩ := h
  refine wg_ladd dX8_draw_14 o ?_
  refine wg_lstore_n (L' := [some (vI a0), some (vI a1), some (vL (((7919 * a0) + (6151 * a1)) + 1)), none]) dX8_draw_15 (Nat.le_of_ble_eq_true rfl) rfl ?_
  refine wg_lload_n dX8_draw_16 rfl ?_
  refine wg_lload_n dX8_draw_17 rfl ?_
  obtain ⟨o, h⟩ := h
  refine wg_lmul dX8_draw_18 o ?_
  refine wg_ldc2 dX8_draw_19 kc_X8_310 ⟨by decide, by decide⟩ ?_
  refine wg_lrem dX8_draw_22 (by decide) ?_
  obtain ⟨o, h⟩ := h
  refine wg_l2i dX8_draw_23 o ?_
  exact wp_iret rfl dX8_draw_24 ⟨Nat.le_refl _, Nat.le_refl _⟩ h
set_option maxRecDepth 100000 in
theorem bX8_power_0 {G : GG} {d : Nat} {M : MM} {Q : Option AV → MM → Prop} (a0 : Int) (a1 : Int) (h :
Wp G mX8_power d 0 0 5 [some (vI a0), some (vI a1), some (vL 1), none, some (vI 0)] [] M 0 0 Q) :
  Wp G mX8_power d 0 0 0 [some (vI a0), some (vI a1), none, none, none] [] M 0 0 Q := by
  refine wg_lconst dX8_power_0 rfl ?_
  refine wg_lstore_n (L' := [some (vI a0), some (vI a1), some (vL 1), none, none]) dX8_power_1 (Nat.le_of_ble_eq_true rfl) rfl ?_
  refine wg_iconst dX8_power_2 qiconst_0 ?_
  refine wg_istore (L' := [some (vI a0), some (vI a1), some (vL 1), none, some (vI 0)]) dX8_power_3 (Nat.le_of_ble_eq_true rfl) rfl ?_
  exact h
set_option maxRecDepth 100000 in
theorem bX8_power_5 {G : GG} {d : Nat} {M : MM} {Q : Option AV → MM → Prop} (a0 : Int) (a1 : Int) (s2 : Int) (s4 : Int) (h :
(a1 ≤ s4 →
(Q (some (vL s2)) M)) ∧
(¬ (a1 ≤ s4) →
(R64 (s2 * a0) ∧
(R32 (s4 + 1) ∧
(Wp G mX8_power d 0 0 5 [some (vI a0), some (vI a1), some (vL (s2 * a0)), none, some (vI (s4 + 1))] [] M 0 0 Q))))) :
  Wp G mX8_power d 0 0 5 [some (vI a0), some (vI a1), some (vL s2), none, some (vI s4)] [] M 0 0 Q := by
  refine wg_iload dX8_power_5 rfl ?_
  refine wg_iload_n dX8_power_7 rfl ?_
  refine wg_icmp_ge dX8_power_8 rfl (fun c1 => ?_) (fun c1 => ?_)
  · replace h := h.1 c1
    refine wg_lload_n dX8_power_22 rfl ?_
    exact wp_lret rfl dX8_power_23 ⟨Nat.le_refl _, Nat.le_refl _⟩ h
  · replace h := h.2 c1
    refine wg_lload_n dX8_power_11 rfl ?_
    refine wg_iload_n dX8_power_12 rfl ?_
    refine wg_i2l dX8_power_13 ?_
    obtain ⟨o, h⟩ := h
    refine wg_lmul dX8_power_14 o ?_
    refine wg_lstore_n (L' := [some (vI a0), some (vI a1), some (vL (s2 * a0)), none, some (vI s4)]) dX8_power_15 (Nat.le_of_ble_eq_true rfl) rfl ?_
    obtain ⟨o, h⟩ := h
    refine wg_iinc (L' := [some (vI a0), some (vI a1), some (vL (s2 * a0)), none, some (vI (s4 + 1))]) dX8_power_16 (Nat.le_of_ble_eq_true rfl) rfl rfl o ?_
    refine wg_goto dX8_power_19 rfl ?_
    exact h
set_option maxRecDepth 100000 in
theorem bX8_commonDivisor_0 {G : GG} {d : Nat} {M : MM} {Q : Option AV → MM → Prop} (a0 : Int) (a2 : Int) (h :
Wp G mX8_commonDivisor (d + 1) 0 0 9 [none, none, none, none, some (vL a0), none, some (vL a2), none, some (vI 0), none, none] [] M 0 0 Q) :
  Wp G mX8_commonDivisor (d + 1) 0 0 0 [some (vL a0), none, some (vL a2), none, none, none, none, none, none, none, none] [] M 0 0 Q := by
  refine wg_lload_n dX8_commonDivisor_0 rfl ?_
  refine wg_lstore (L' := [some (vL a0), none, some (vL a2), none, some (vL a0), none, none, none, none, none, none]) dX8_commonDivisor_1 (Nat.le_of_ble_eq_true rfl) rfl ?_
  refine wg_lload_n dX8_commonDivisor_3 rfl ?_
  refine wg_lstore (L' := [some (vL a0), none, some (vL a2), none, some (vL a0), none, some (vL a2), none, none, none, none]) dX8_commonDivisor_4 (Nat.le_of_ble_eq_true rfl) rfl ?_
  refine wg_iconst dX8_commonDivisor_6 qiconst_0 ?_
  refine wg_istore (L' := [some (vL a0), none, some (vL a2), none, some (vL a0), none, some (vL a2), none, some (vI 0), none, none]) dX8_commonDivisor_7 (Nat.le_of_ble_eq_true rfl) rfl ?_
  refine wg_weak [false, false, false, false, true, false, true, false, true, false, false] rfl ?_
  exact h
set_option maxRecDepth 100000 in
theorem bX8_commonDivisor_9 {G : GG} {d : Nat} {M : MM} {Q : Option AV → MM → Prop} (s4 : Int) (s6 : Int) (s8 : Int) (h :
(200 ≤ s8 →
(Q (some (vL (if s4 < 1 then 1 else s4))) M)) ∧
(¬ (200 ≤ s8) →
((s6 = 0 →
(Q (some (vL (if s4 < 1 then 1 else s4))) M)) ∧
(¬ (s6 = 0) →
(s6 ≠ 0 ∧
(R32 (s8 + 1) ∧
(Wp G mX8_commonDivisor (d + 1) 0 0 9 [none, none, none, none, some (vL s6), none, some (vL (Int.tmod s4 s6)), none, some (vI (s8 + 1)), none, none] [] M 0 0 Q))))))) :
  Wp G mX8_commonDivisor (d + 1) 0 0 9 [none, none, none, none, some (vL s4), none, some (vL s6), none, some (vI s8), none, none] [] M 0 0 Q := by
  refine wg_iload dX8_commonDivisor_9 rfl ?_
  refine wg_sipush dX8_commonDivisor_11 qsipush_200 ?_
  refine wg_icmp_ge dX8_commonDivisor_14 rfl (fun c1 => ?_) (fun c1 => ?_)
  · replace h := h.1 c1
    refine wg_lconst dX8_commonDivisor_45 rfl ?_
    refine wg_lload dX8_commonDivisor_46 rfl ?_
    refine wg_mmaxL dX8_commonDivisor_48 lk_X8_312 ma_maxL_s in_Math ma_maxL_c (Nat.le_of_ble_eq_true rfl) (Nat.le_add_left 1 d) ⟨Nat.le_refl _, Nat.le_refl _⟩ ?_
    exact wp_lret rfl dX8_commonDivisor_51 ⟨Nat.le_refl _, Nat.le_refl _⟩ h
  · replace h := h.2 c1
    refine wg_lload dX8_commonDivisor_17 rfl ?_
    refine wg_lconst dX8_commonDivisor_19 rfl ?_
    refine wg_lcmp dX8_commonDivisor_20 ?_
    refine wg_if_eq dX8_commonDivisor_21 rfl (fun c2 => ?_) (fun c2 => ?_)
    · replace c2 := lcmp_eq.mp c2
      replace h := h.1 c2
      refine wg_lconst dX8_commonDivisor_45 rfl ?_
      refine wg_lload dX8_commonDivisor_46 rfl ?_
      refine wg_mmaxL dX8_commonDivisor_48 lk_X8_312 ma_maxL_s in_Math ma_maxL_c (Nat.le_of_ble_eq_true rfl) (Nat.le_add_left 1 d) ⟨Nat.le_refl _, Nat.le_refl _⟩ ?_
      exact wp_lret rfl dX8_commonDivisor_51 ⟨Nat.le_refl _, Nat.le_refl _⟩ h
    · replace c2 := (not_congr lcmp_eq).mp c2
      replace h := h.2 c2
      refine wg_lload dX8_commonDivisor_24 rfl ?_
      refine wg_lload dX8_commonDivisor_26 rfl ?_
      obtain ⟨o1, h⟩ := h
      refine wg_lrem dX8_commonDivisor_28 o1 ?_
      refine wg_lstore (L' := [none, none, none, none, some (vL s4), none, some (vL s6), none, some (vI s8), some (vL (Int.tmod s4 s6)), none]) dX8_commonDivisor_29 (Nat.le_of_ble_eq_true rfl) rfl ?_
      refine wg_lload dX8_commonDivisor_31 rfl ?_
      refine wg_lstore (L' := [none, none, none, none, some (vL s6), none, some (vL s6), none, some (vI s8), some (vL (Int.tmod s4 s6)), none]) dX8_commonDivisor_33 (Nat.le_of_ble_eq_true rfl) rfl ?_
      refine wg_lload dX8_commonDivisor_35 rfl ?_
      refine wg_lstore (L' := [none, none, none, none, some (vL s6), none, some (vL (Int.tmod s4 s6)), none, some (vI s8), some (vL (Int.tmod s4 s6)), none]) dX8_commonDivisor_37 (Nat.le_of_ble_eq_true rfl) rfl ?_
      obtain ⟨o, h⟩ := h
      refine wg_iinc (L' := [none, none, none, none, some (vL s6), none, some (vL (Int.tmod s4 s6)), none, some (vI (s8 + 1)), some (vL (Int.tmod s4 s6)), none]) dX8_commonDivisor_39 (Nat.le_of_ble_eq_true rfl) rfl rfl o ?_
      refine wg_goto dX8_commonDivisor_42 rfl ?_
      refine wg_weak [false, false, false, false, true, false, true, false, true, false, false] rfl ?_
      exact h
