/-! ===== the constructor of RibbonOfLacks: what it makes (by program) ===== -/
def mZ0 : MM := (0, fun _ _ => 0, fun _ _ => 0)
def mZ1 : MM := stN mZ0
def mZ2 : MM := stR (mk1 (stN mZ1)) 1 0 2
def mZ3 : MM := stR (mk4 (stN mZ2)) 1 1 4
def mZ4 : MM := stR (mk7 6 (stN mZ3)) 1 2 6
def mZ5 : MM := stR (mk7 18 (stN mZ4)) 1 3 18
def mZ6 : MM := stR (mk6 (stN mZ5)) 1 4 30
def mZ7 : MM := stR (mk5 35 (stN mZ6)) 1 5 35
def mZ8 : MM := stR (mk5 39 (stN mZ7)) 1 6 39
def mZ9 : MM := stR (mk2 43 (stN mZ8) 8) 1 7 43
def mZ10 : MM := stR (mk2 77 (stN mZ9) 2) 1 8 77
def mZ11 : MM := stR (mk3 (stN mZ10)) 1 9 87
def mZ12 : MM := stR (mk0 (stN mZ11)) 1 10 94
theorem mZ1_1 : mZ1.1 = 1 := by decide +kernel
theorem mZ2_1 : mZ2.1 = 3 := by decide +kernel
theorem mZ3_1 : mZ3.1 = 5 := by decide +kernel
theorem mZ4_1 : mZ4.1 = 17 := by decide +kernel
theorem mZ5_1 : mZ5.1 = 29 := by decide +kernel
theorem mZ6_1 : mZ6.1 = 34 := by decide +kernel
theorem mZ7_1 : mZ7.1 = 38 := by decide +kernel
theorem mZ8_1 : mZ8.1 = 42 := by decide +kernel
theorem mZ9_1 : mZ9.1 = 76 := by decide +kernel
theorem mZ10_1 : mZ10.1 = 86 := by decide +kernel
theorem mZ11_1 : mZ11.1 = 93 := by decide +kernel
theorem mZ12_1 : mZ12.1 = 95 := by decide +kernel
theorem mZ2_t : gR mZ2 1 0 = 2 := by decide +kernel
theorem mZ3_t : gR (stN mZ2) 1 0 = 2 := by decide +kernel
theorem mZ11_t : gR (stN mZ10) 1 4 = 30 := by decide +kernel
set_option maxRecDepth 100000 in
theorem ok8_made {G : GG} {d : Nat} {Q : Option AV → MM → Prop} (hd : 3 ≤ d) (kk : Wp G mX8_init (d + 1) 94 6817 138 [some (vR 1), some (vI ((0 : Nat) : Int))] [] mZ12 94 6817 Q) : Wp G mX8_init (d + 1) 94 6817 0 [some (vR 1), none] [] mZ1 0 0 Q := by
  refine wg_aload_n dX8_init_0 rfl (by decide) ?_
  refine wg_objInit dX8_init_1 lk_X8_1 oi_i oi_c (by decide) (Nat.le_of_ble_eq_true rfl) (by omega) ?_
  refine wg_aload_n dX8_init_4 rfl (by decide) ?_
  refine wg_new' (q := 2) dX8_init_5 (nw_X8_7 rfl) (congrArg (· + 1) mZ1_1) rfl ⟨Nat.le_of_ble_eq_true rfl, Nat.le_of_ble_eq_true rfl⟩ ?_
  refine wg_dup dX8_init_8 rfl ?_
  refine wg_callIN (I' := mX1_init) (np := 0) (d' := d) (q := 2) (as := []) (st := [vR 2, vR 1]) (Qc := fun v M' => v = none ∧ M' = mk1 (stN mZ1)) dX8_init_9 lk_X8_9 ci_X1_init rfl rfl rfl (Nat.le_of_ble_eq_true rfl) (by decide) (Nat.le_refl _) (mc' := 1) (ms' := 200) ⟨Nat.le_of_ble_eq_true rfl, Nat.le_of_ble_eq_true rfl⟩ (ok1_init (congrArg (· + 1) mZ1_1) (by omega) ⟨rfl, rfl⟩) (fun v M' h => ?_)
  obtain ⟨rfl, rfl⟩ := h
  refine wg_putFR dX8_init_12 (fl_X8_10 rfl) rfl rfl (fun v => rfl) (fun ad => by unfold cr; split <;> rfl) rfl rfl (fun r h => by cases h; rfl) rfl (by decide) ?_
  show Wp G mX8_init (d + 1) 94 6817 15 [some (vR 1), none] [] mZ2 2 202 Q
  refine wg_aload_n dX8_init_15 rfl (by decide) ?_
  refine wg_new' (q := 4) dX8_init_16 (nw_X8_16 rfl) (congrArg (· + 1) mZ2_1) rfl ⟨Nat.le_of_ble_eq_true rfl, Nat.le_of_ble_eq_true rfl⟩ ?_
  refine wg_dup dX8_init_19 rfl ?_
  refine wg_aload_n dX8_init_20 rfl (by decide) ?_
  refine wg_getRe dX8_init_21 (fl_X8_10 rfl) rfl rfl mZ3_t ?_
  refine wg_callI (I' := mX4_init) (np := 1) (d' := d) (q := 4) (as := [vR 2]) (st := [vR 4, vR 1]) (Qc := fun v M' => v = none ∧ M' = mk4 (stN mZ2)) dX8_init_24 lk_X8_18 ci_X4_init rfl rfl rfl (Nat.le_of_ble_eq_true rfl) (by decide) (Nat.le_refl _) (mc' := 1) (ms' := 4) ⟨Nat.le_of_ble_eq_true rfl, Nat.le_of_ble_eq_true rfl⟩ (ok4_init (congrArg (· + 1) mZ2_1) (by omega) ⟨rfl, rfl⟩) (fun v M' h => ?_)
  obtain ⟨rfl, rfl⟩ := h
  refine wg_putFR dX8_init_27 (fl_X8_21 rfl) rfl rfl (fun v => rfl) (fun ad => by unfold cr; split <;> rfl) rfl rfl (fun r h => by cases h; rfl) rfl (by decide) ?_
  show Wp G mX8_init (d + 1) 94 6817 30 [some (vR 1), none] [] mZ3 4 209 Q
  refine wg_aload_n dX8_init_30 rfl (by decide) ?_
  refine wg_new' (q := 6) dX8_init_31 (nw_X8_25 rfl) (congrArg (· + 1) mZ3_1) rfl ⟨Nat.le_of_ble_eq_true rfl, Nat.le_of_ble_eq_true rfl⟩ ?_
  refine wg_dup dX8_init_34 rfl ?_
  refine wg_callIN (I' := mX7_init) (np := 0) (d' := d) (q := 6) (as := []) (st := [vR 6, vR 1]) (Qc := fun v M' => v = none ∧ M' = mk7 6 (stN mZ3)) dX8_init_35 lk_X8_27 ci_X7_init rfl rfl rfl (Nat.le_of_ble_eq_true rfl) (by decide) (Nat.le_refl _) (mc' := 11) (ms' := 88) ⟨Nat.le_of_ble_eq_true rfl, Nat.le_of_ble_eq_true rfl⟩ (ok7_init (congrArg (· + 1) mZ3_1) rfl (by omega) ⟨rfl, rfl⟩) (fun v M' h => ?_)
  obtain ⟨rfl, rfl⟩ := h
  refine wg_putR dX8_init_38 (fl_X8_28 rfl) rfl rfl (fun v => rfl) (fun ad => by unfold cr; split <;> rfl) rfl rfl (by decide) ?_
  show Wp G mX8_init (d + 1) 94 6817 41 [some (vR 1), none] [] mZ4 16 316 Q
  refine wg_aload_n dX8_init_41 rfl (by decide) ?_
  refine wg_new' (q := 18) dX8_init_42 (nw_X8_25 rfl) (congrArg (· + 1) mZ4_1) rfl ⟨Nat.le_of_ble_eq_true rfl, Nat.le_of_ble_eq_true rfl⟩ ?_
  refine wg_dup dX8_init_45 rfl ?_
  refine wg_callIN (I' := mX7_init) (np := 0) (d' := d) (q := 18) (as := []) (st := [vR 18, vR 1]) (Qc := fun v M' => v = none ∧ M' = mk7 18 (stN mZ4)) dX8_init_46 lk_X8_27 ci_X7_init rfl rfl rfl (Nat.le_of_ble_eq_true rfl) (by decide) (Nat.le_refl _) (mc' := 11) (ms' := 88) ⟨Nat.le_of_ble_eq_true rfl, Nat.le_of_ble_eq_true rfl⟩ (ok7_init (congrArg (· + 1) mZ4_1) rfl (by omega) ⟨rfl, rfl⟩) (fun v M' h => ?_)
  obtain ⟨rfl, rfl⟩ := h
  refine wg_putR dX8_init_49 (fl_X8_32 rfl) rfl rfl (fun v => rfl) (fun ad => by unfold cr; split <;> rfl) rfl rfl (by decide) ?_
  show Wp G mX8_init (d + 1) 94 6817 52 [some (vR 1), none] [] mZ5 28 423 Q
  refine wg_aload_n dX8_init_52 rfl (by decide) ?_
  refine wg_new' (q := 30) dX8_init_53 (nw_X8_35 rfl) (congrArg (· + 1) mZ5_1) rfl ⟨Nat.le_of_ble_eq_true rfl, Nat.le_of_ble_eq_true rfl⟩ ?_
  refine wg_dup dX8_init_56 rfl ?_
  refine wg_callIN (I' := mX6_init) (np := 0) (d' := d) (q := 30) (as := []) (st := [vR 30, vR 1]) (Qc := fun v M' => v = none ∧ M' = mk6 (stN mZ5)) dX8_init_57 lk_X8_37 ci_X6_init rfl rfl rfl (Nat.le_of_ble_eq_true rfl) (by decide) (Nat.le_refl _) (mc' := 4) (ms' := 4096) ⟨Nat.le_of_ble_eq_true rfl, Nat.le_of_ble_eq_true rfl⟩ (ok6_init (congrArg (· + 1) mZ5_1) (by omega) ⟨rfl, rfl⟩) (fun v M' h => ?_)
  obtain ⟨rfl, rfl⟩ := h
  refine wg_putFR dX8_init_60 (fl_X8_38 rfl) rfl rfl (fun v => rfl) (fun ad => by unfold cr; split <;> rfl) rfl rfl (fun r h => by cases h; rfl) rfl (by decide) ?_
  show Wp G mX8_init (d + 1) 94 6817 63 [some (vR 1), none] [] mZ6 33 4524 Q
  refine wg_aload_n dX8_init_63 rfl (by decide) ?_
  refine wg_new' (q := 35) dX8_init_64 (nw_X8_42 rfl) (congrArg (· + 1) mZ6_1) rfl ⟨Nat.le_of_ble_eq_true rfl, Nat.le_of_ble_eq_true rfl⟩ ?_
  refine wg_dup dX8_init_67 rfl ?_
  refine wg_callIN (I' := mX5_init) (np := 0) (d' := d) (q := 35) (as := []) (st := [vR 35, vR 1]) (Qc := fun v M' => v = none ∧ M' = mk5 35 (stN mZ6)) dX8_init_68 lk_X8_44 ci_X5_init rfl rfl rfl (Nat.le_of_ble_eq_true rfl) (by decide) (Nat.le_refl _) (mc' := 3) (ms' := 12) ⟨Nat.le_of_ble_eq_true rfl, Nat.le_of_ble_eq_true rfl⟩ (ok5_init (congrArg (· + 1) mZ6_1) rfl (by omega) ⟨rfl, rfl⟩) (fun v M' h => ?_)
  obtain ⟨rfl, rfl⟩ := h
  refine wg_putFR dX8_init_71 (fl_X8_45 rfl) rfl rfl (fun v => rfl) (fun ad => by unfold cr; split <;> rfl) rfl rfl (fun r h => by cases h; rfl) rfl (by decide) ?_
  show Wp G mX8_init (d + 1) 94 6817 74 [some (vR 1), none] [] mZ7 37 4540 Q
  refine wg_aload_n dX8_init_74 rfl (by decide) ?_
  refine wg_new' (q := 39) dX8_init_75 (nw_X8_42 rfl) (congrArg (· + 1) mZ7_1) rfl ⟨Nat.le_of_ble_eq_true rfl, Nat.le_of_ble_eq_true rfl⟩ ?_
  refine wg_dup dX8_init_78 rfl ?_
  refine wg_callIN (I' := mX5_init) (np := 0) (d' := d) (q := 39) (as := []) (st := [vR 39, vR 1]) (Qc := fun v M' => v = none ∧ M' = mk5 39 (stN mZ7)) dX8_init_79 lk_X8_44 ci_X5_init rfl rfl rfl (Nat.le_of_ble_eq_true rfl) (by decide) (Nat.le_refl _) (mc' := 3) (ms' := 12) ⟨Nat.le_of_ble_eq_true rfl, Nat.le_of_ble_eq_true rfl⟩ (ok5_init (congrArg (· + 1) mZ7_1) rfl (by omega) ⟨rfl, rfl⟩) (fun v M' h => ?_)
  obtain ⟨rfl, rfl⟩ := h
  refine wg_putFR dX8_init_82 (fl_X8_49 rfl) rfl rfl (fun v => rfl) (fun ad => by unfold cr; split <;> rfl) rfl rfl (fun r h => by cases h; rfl) rfl (by decide) ?_
  show Wp G mX8_init (d + 1) 94 6817 85 [some (vR 1), none] [] mZ8 41 4556 Q
  refine wg_aload_n dX8_init_85 rfl (by decide) ?_
  refine wg_new' (q := 43) dX8_init_86 (nw_X8_52 rfl) (congrArg (· + 1) mZ8_1) rfl ⟨Nat.le_of_ble_eq_true rfl, Nat.le_of_ble_eq_true rfl⟩ ?_
  refine wg_dup dX8_init_89 rfl ?_
  refine wg_bipush dX8_init_90 ⟨by decide, by decide⟩ ?_
  refine wg_callI (I' := mX2_init) (np := 1) (d' := d) (q := 43) (as := [vI ((8 : Nat) : Int)]) (st := [vR 43, vR 1]) (Qc := fun v M' => v = none ∧ M' = mk2 43 (stN mZ8) 8) dX8_init_92 lk_X8_54 ci_X2_init rfl rfl rfl (Nat.le_of_ble_eq_true rfl) (by decide) (Nat.le_refl _) (mc' := 33) (ms' := 136) ⟨Nat.le_of_ble_eq_true rfl, Nat.le_of_ble_eq_true rfl⟩ (ok2_init (p := 43) (r := 8) (congrArg (· + 1) mZ8_1) rfl rfl (by decide) (by omega) ⟨rfl, rfl⟩) (fun v M' h => ?_)
  obtain ⟨rfl, rfl⟩ := h
  refine wg_putFR dX8_init_95 (fl_X8_57 rfl) rfl rfl (fun v => rfl) (fun ad => by unfold cr; split <;> rfl) rfl rfl (fun r h => by cases h; rfl) rfl (by decide) ?_
  show Wp G mX8_init (d + 1) 94 6817 98 [some (vR 1), none] [] mZ9 75 4694 Q
  refine wg_aload_n dX8_init_98 rfl (by decide) ?_
  refine wg_new' (q := 77) dX8_init_99 (nw_X8_52 rfl) (congrArg (· + 1) mZ9_1) rfl ⟨Nat.le_of_ble_eq_true rfl, Nat.le_of_ble_eq_true rfl⟩ ?_
  refine wg_dup dX8_init_102 rfl ?_
  refine wg_iconst dX8_init_103 ⟨by decide, by decide⟩ ?_
  refine wg_callI (I' := mX2_init) (np := 1) (d' := d) (q := 77) (as := [vI ((2 : Nat) : Int)]) (st := [vR 77, vR 1]) (Qc := fun v M' => v = none ∧ M' = mk2 77 (stN mZ9) 2) dX8_init_104 lk_X8_54 ci_X2_init rfl rfl rfl (Nat.le_of_ble_eq_true rfl) (by decide) (Nat.le_refl _) (mc' := 9) (ms' := 34) ⟨Nat.le_of_ble_eq_true rfl, Nat.le_of_ble_eq_true rfl⟩ (ok2_init (p := 77) (r := 2) (congrArg (· + 1) mZ9_1) rfl rfl (by decide) (by omega) ⟨rfl, rfl⟩) (fun v M' h => ?_)
  obtain ⟨rfl, rfl⟩ := h
  refine wg_putFR dX8_init_107 (fl_X8_61 rfl) rfl rfl (fun v => rfl) (fun ad => by unfold cr; split <;> rfl) rfl rfl (fun r h => by cases h; rfl) rfl (by decide) ?_
  show Wp G mX8_init (d + 1) 94 6817 110 [some (vR 1), none] [] mZ10 85 4730 Q
  refine wg_aload_n dX8_init_110 rfl (by decide) ?_
  refine wg_new' (q := 87) dX8_init_111 (nw_X8_64 rfl) (congrArg (· + 1) mZ10_1) rfl ⟨Nat.le_of_ble_eq_true rfl, Nat.le_of_ble_eq_true rfl⟩ ?_
  refine wg_dup dX8_init_114 rfl ?_
  refine wg_aload_n dX8_init_115 rfl (by decide) ?_
  refine wg_getRe dX8_init_116 (fl_X8_38 rfl) rfl rfl mZ11_t ?_
  refine wg_callI (I' := mX3_init) (np := 1) (d' := d) (q := 87) (as := [vR 30]) (st := [vR 87, vR 1]) (Qc := fun v M' => v = none ∧ M' = mk3 (stN mZ10)) dX8_init_119 lk_X8_66 ci_X3_init rfl rfl rfl (Nat.le_of_ble_eq_true rfl) (by decide) (Nat.le_refl _) (mc' := 6) (ms' := 2065) ⟨Nat.le_of_ble_eq_true rfl, Nat.le_of_ble_eq_true rfl⟩ (ok3_init (congrArg (· + 1) mZ10_1) (by omega) ⟨rfl, rfl⟩) (fun v M' h => ?_)
  obtain ⟨rfl, rfl⟩ := h
  refine wg_putFR dX8_init_122 (fl_X8_69 rfl) rfl rfl (fun v => rfl) (fun ad => by unfold cr; split <;> rfl) rfl rfl (fun r h => by cases h; rfl) rfl (by decide) ?_
  show Wp G mX8_init (d + 1) 94 6817 125 [some (vR 1), none] [] mZ11 92 6807 Q
  refine wg_aload_n dX8_init_125 rfl (by decide) ?_
  refine wg_new' (q := 94) dX8_init_126 (nw_X8_73 rfl) (congrArg (· + 1) mZ11_1) rfl ⟨Nat.le_of_ble_eq_true rfl, Nat.le_of_ble_eq_true rfl⟩ ?_
  refine wg_dup dX8_init_129 rfl ?_
  refine wg_callIN (I' := mX0_init) (np := 0) (d' := d) (q := 94) (as := []) (st := [vR 94, vR 1]) (Qc := fun v M' => v = none ∧ M' = mk0 (stN mZ11)) dX8_init_130 lk_X8_75 ci_X0_init rfl rfl rfl (Nat.le_of_ble_eq_true rfl) (by decide) (Nat.le_refl _) (mc' := 1) (ms' := 6) ⟨Nat.le_of_ble_eq_true rfl, Nat.le_of_ble_eq_true rfl⟩ (ok0_init (congrArg (· + 1) mZ11_1) (by omega) ⟨rfl, rfl⟩) (fun v M' h => ?_)
  obtain ⟨rfl, rfl⟩ := h
  refine wg_putFR dX8_init_133 (fl_X8_76 rfl) rfl rfl (fun v => rfl) (fun ad => by unfold cr; split <;> rfl) rfl rfl (fun r h => by cases h; rfl) rfl (by decide) ?_
  show Wp G mX8_init (d + 1) 94 6817 136 [some (vR 1), none] [] mZ12 94 6817 Q
  refine wg_iconst dX8_init_136 ⟨by decide, by decide⟩ ?_
  refine wg_istore_n (L' := [some (vR 1), some (vI ((0 : Nat) : Int))]) dX8_init_137 (Nat.le_of_ble_eq_true rfl) rfl ?_
  exact kk
