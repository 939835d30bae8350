/-! ===== constructors, by program: the memory that each leaves ===== -/
section NEWS
variable {G : GG} {I : MI} {XX : State → Prop} {d mc ms : Nat} {Z : Nat → (Nat → Nat) → List Frame → Array Value → State → State → Prop} {pc pc' : Nat} {L : List (Option AV)} {st : List AV} {M : MM} {k n : Nat}
theorem wg_newI' {N q : Nat} {i : Int} (hd : Dd I.2.1 pc (.newarray .int) 2 pc') (hw : Cond.arrayClass .int ∈ WS) (hM : M.1 + 1 = q) (hq : kd q = 10) (hi : i = (N : Int)) (hN : ln q = N) (hk : k + 1 ≤ mc ∧ n + N ≤ ms) (kk : Wg G I XX d mc ms Z pc' L (vR q :: st) (stN M) (k + 1) (n + N)) : Wg G I XX d mc ms Z pc L (vI i :: st) M k n := by
  subst hM
  exact wg_newI hd hw hq hi hN hk kk
theorem wg_newZ' {N q : Nat} {i : Int} (hd : Dd I.2.1 pc (.newarray .boolean) 2 pc') (hw : Cond.arrayClass .boolean ∈ WS) (hM : M.1 + 1 = q) (hq : kd q = 11) (hi : i = (N : Int)) (hN : ln q = N) (hk : k + 1 ≤ mc ∧ n + N ≤ ms) (kk : Wg G I XX d mc ms Z pc' L (vR q :: st) (stN M) (k + 1) (n + N)) : Wg G I XX d mc ms Z pc L (vI i :: st) M k n := by
  subst hM
  exact wg_newZ hd hw hq hi hN hk kk
theorem wg_new' {ix ci N q : Nat} (hd : Dd I.2.1 pc (.new ix) 3 pc') (hw : NW I ix ci N) (hM : M.1 + 1 = q) (hq : kd q = ci) (hk : k + 1 ≤ mc ∧ n + N ≤ ms) (kk : Wg G I XX d mc ms Z pc' L (vR q :: st) (stN M) (k + 1) (n + N)) : Wg G I XX d mc ms Z pc L st M k n := by
  subst hM
  exact wg_new hd hw hq hk kk
theorem wg_newQ' {ix N q : Nat} {i : Int} (hd : Dd I.2.1 pc (.anewarray ix) 3 pc') (hw : Cond.classLink I.1.cls ix RX5 ∈ WS) (hM : M.1 + 1 = q) (hq : kd q = 12) (hi : i = (N : Int)) (hN : ln q = N) (hk : k + 1 ≤ mc ∧ n + N ≤ ms) (kk : Wg G I XX d mc ms Z pc' L (vR q :: st) (stN M) (k + 1) (n + N)) : Wg G I XX d mc ms Z pc L (vI i :: st) M k n := by
  subst hM
  exact wg_newQ hd hw hq hi hN hk kk
end NEWS
def mk0 (M : MM) : MM := stI (stI (stR (stN (stI M 94 0 0)) 94 1 95) 94 2 1) 94 3 1
set_option maxRecDepth 100000 in
theorem ok0_init {G : GG} {d : Nat} {M : MM} {Q : Option AV → MM → Prop} (hM : M.1 = 94) (hd : 1 ≤ d) (kk : Q none (mk0 M)) : Ok G mX0_init d 1 6 [vR 94] M Q := by
  refine Ok_of rfl (Nat.le_of_ble_eq_true rfl) rfl ?_
  refine wg_aload_n dX0_init_0 rfl (by decide) ?_
  refine wg_objInit dX0_init_1 lk_X0_5 oi_i oi_c (by decide) (Nat.le_of_ble_eq_true rfl) hd ?_
  refine wg_aload_n dX0_init_4 rfl (by decide) ?_
  refine wg_iconst dX0_init_5 ⟨by decide, by decide⟩ ?_
  refine wg_putI dX0_init_6 (fl_X0_11 rfl) rfl rfl rfl ?_
  refine wg_aload_n dX0_init_9 rfl (by decide) ?_
  refine wg_bipush dX0_init_10 ⟨by decide, by decide⟩ ?_
  refine wg_newI' (N := 6) (q := 95) dX0_init_12 ac_I (by show M.1 + 0 + 1 = 95; omega) rfl rfl rfl ⟨Nat.le_of_ble_eq_true rfl, Nat.le_of_ble_eq_true rfl⟩ ?_
  refine wg_putFR dX0_init_14 (fl_X0_17 rfl) rfl rfl (fun v => rfl) (fun ad => by unfold cr; split <;> rfl) rfl rfl (fun r h => by cases h; rfl) rfl (by decide) ?_
  refine wg_aload_n dX0_init_17 rfl (by decide) ?_
  refine wg_iconst dX0_init_18 ⟨by decide, by decide⟩ ?_
  refine wg_putI dX0_init_19 (fl_X0_21 rfl) rfl rfl rfl ?_
  refine wg_aload_n dX0_init_22 rfl (by decide) ?_
  refine wg_iconst dX0_init_23 ⟨by decide, by decide⟩ ?_
  refine wg_putI dX0_init_24 (fl_X0_24 rfl) rfl rfl rfl ?_
  exact wp_vret rfl dX0_init_27 ⟨Nat.le_refl _, Nat.le_refl _⟩ kk
def mk1 (M : MM) : MM := stI (stR (stN M) 2 0 3) 2 1 0
set_option maxRecDepth 100000 in
theorem ok1_init {G : GG} {d : Nat} {M : MM} {Q : Option AV → MM → Prop} (hM : M.1 = 2) (hd : 1 ≤ d) (kk : Q none (mk1 M)) : Ok G mX1_init d 1 200 [vR 2] M Q := by
  refine Ok_of rfl (Nat.le_of_ble_eq_true rfl) rfl ?_
  refine wg_aload_n dX1_init_0 rfl (by decide) ?_
  refine wg_objInit dX1_init_1 lk_X1_1 oi_i oi_c (by decide) (Nat.le_of_ble_eq_true rfl) hd ?_
  refine wg_aload_n dX1_init_4 rfl (by decide) ?_
  refine wg_sipush dX1_init_5 ⟨by decide, by decide⟩ ?_
  refine wg_newI' (N := 200) (q := 3) dX1_init_8 ac_I (by show M.1 + 0 + 1 = 3; omega) rfl rfl rfl ⟨Nat.le_of_ble_eq_true rfl, Nat.le_of_ble_eq_true rfl⟩ ?_
  refine wg_putFR dX1_init_10 (fl_X1_9 rfl) rfl rfl (fun v => rfl) (fun ad => by unfold cr; split <;> rfl) rfl rfl (fun r h => by cases h; rfl) rfl (by decide) ?_
  refine wg_aload_n dX1_init_13 rfl (by decide) ?_
  refine wg_iconst dX1_init_14 ⟨by decide, by decide⟩ ?_
  refine wg_putI dX1_init_15 (fl_X1_13 rfl) rfl rfl rfl ?_
  exact wp_vret rfl dX1_init_18 ⟨Nat.le_refl _, Nat.le_refl _⟩ kk
def mk3 (M : MM) : MM := stR (stI (stR (stN (stR (stN (stR (stN (stR (stN (stR (stN (stR (stN (stI (stI (stI (stI M 87 0 0) 87 1 0) 87 2 0) 87 3 0)) 87 5 88)) 87 6 89)) 87 7 90)) 87 8 91)) 87 9 92)) 87 10 93) 87 11 0) 87 4 30
set_option maxRecDepth 100000 in
theorem ok3_init {G : GG} {d : Nat} {M : MM} {Q : Option AV → MM → Prop} (hM : M.1 = 87) (hd : 1 ≤ d) (kk : Q none (mk3 M)) : Ok G mX3_init d 6 2065 [vR 87, vR 30] M Q := by
  refine Ok_of rfl (Nat.le_of_ble_eq_true rfl) rfl ?_
  refine wg_aload_n dX3_init_0 rfl (by decide) ?_
  refine wg_objInit dX3_init_1 lk_X3_5 oi_i oi_c (by decide) (Nat.le_of_ble_eq_true rfl) hd ?_
  refine wg_aload_n dX3_init_4 rfl (by decide) ?_
  refine wg_iconst dX3_init_5 ⟨by decide, by decide⟩ ?_
  refine wg_putI dX3_init_6 (fl_X3_11 rfl) rfl rfl rfl ?_
  refine wg_aload_n dX3_init_9 rfl (by decide) ?_
  refine wg_iconst dX3_init_10 ⟨by decide, by decide⟩ ?_
  refine wg_putI dX3_init_11 (fl_X3_17 rfl) rfl rfl rfl ?_
  refine wg_aload_n dX3_init_14 rfl (by decide) ?_
  refine wg_iconst dX3_init_15 ⟨by decide, by decide⟩ ?_
  refine wg_putI dX3_init_16 (fl_X3_20 rfl) rfl rfl rfl ?_
  refine wg_aload_n dX3_init_19 rfl (by decide) ?_
  refine wg_iconst dX3_init_20 ⟨by decide, by decide⟩ ?_
  refine wg_putI dX3_init_21 (fl_X3_23 rfl) rfl rfl rfl ?_
  refine wg_aload_n dX3_init_24 rfl (by decide) ?_
  refine wg_iconst dX3_init_25 ⟨by decide, by decide⟩ ?_
  refine wg_newI' (N := 4) (q := 88) dX3_init_26 ac_I (by show M.1 + 0 + 1 = 88; omega) rfl rfl rfl ⟨Nat.le_of_ble_eq_true rfl, Nat.le_of_ble_eq_true rfl⟩ ?_
  refine wg_putFR dX3_init_28 (fl_X3_26 rfl) rfl rfl (fun v => rfl) (fun ad => by unfold cr; split <;> rfl) rfl rfl (fun r h => by cases h; rfl) rfl (by decide) ?_
  refine wg_aload_n dX3_init_31 rfl (by decide) ?_
  refine wg_iconst dX3_init_32 ⟨by decide, by decide⟩ ?_
  refine wg_newI' (N := 4) (q := 89) dX3_init_33 ac_I (by show M.1 + 1 + 1 = 89; omega) rfl rfl rfl ⟨Nat.le_of_ble_eq_true rfl, Nat.le_of_ble_eq_true rfl⟩ ?_
  refine wg_putFR dX3_init_35 (fl_X3_30 rfl) rfl rfl (fun v => rfl) (fun ad => by unfold cr; split <;> rfl) rfl rfl (fun r h => by cases h; rfl) rfl (by decide) ?_
  refine wg_aload_n dX3_init_38 rfl (by decide) ?_
  refine wg_iconst dX3_init_39 ⟨by decide, by decide⟩ ?_
  refine wg_newI' (N := 4) (q := 90) dX3_init_40 ac_I (by show M.1 + 2 + 1 = 90; omega) rfl rfl rfl ⟨Nat.le_of_ble_eq_true rfl, Nat.le_of_ble_eq_true rfl⟩ ?_
  refine wg_putFR dX3_init_42 (fl_X3_33 rfl) rfl rfl (fun v => rfl) (fun ad => by unfold cr; split <;> rfl) rfl rfl (fun r h => by cases h; rfl) rfl (by decide) ?_
  refine wg_aload_n dX3_init_45 rfl (by decide) ?_
  refine wg_iconst dX3_init_46 ⟨by decide, by decide⟩ ?_
  refine wg_newI' (N := 5) (q := 91) dX3_init_47 ac_I (by show M.1 + 3 + 1 = 91; omega) rfl rfl rfl ⟨Nat.le_of_ble_eq_true rfl, Nat.le_of_ble_eq_true rfl⟩ ?_
  refine wg_putFR dX3_init_49 (fl_X3_36 rfl) rfl rfl (fun v => rfl) (fun ad => by unfold cr; split <;> rfl) rfl rfl (fun r h => by cases h; rfl) rfl (by decide) ?_
  refine wg_aload_n dX3_init_52 rfl (by decide) ?_
  refine wg_sipush dX3_init_53 ⟨by decide, by decide⟩ ?_
  refine wg_newI' (N := 1024) (q := 92) dX3_init_56 ac_I (by show M.1 + 4 + 1 = 92; omega) rfl rfl rfl ⟨Nat.le_of_ble_eq_true rfl, Nat.le_of_ble_eq_true rfl⟩ ?_
  refine wg_putFR dX3_init_58 (fl_X3_39 rfl) rfl rfl (fun v => rfl) (fun ad => by unfold cr; split <;> rfl) rfl rfl (fun r h => by cases h; rfl) rfl (by decide) ?_
  refine wg_aload_n dX3_init_61 rfl (by decide) ?_
  refine wg_sipush dX3_init_62 ⟨by decide, by decide⟩ ?_
  refine wg_newI' (N := 1024) (q := 93) dX3_init_65 ac_I (by show M.1 + 5 + 1 = 93; omega) rfl rfl rfl ⟨Nat.le_of_ble_eq_true rfl, Nat.le_of_ble_eq_true rfl⟩ ?_
  refine wg_putFR dX3_init_67 (fl_X3_42 rfl) rfl rfl (fun v => rfl) (fun ad => by unfold cr; split <;> rfl) rfl rfl (fun r h => by cases h; rfl) rfl (by decide) ?_
  refine wg_aload_n dX3_init_70 rfl (by decide) ?_
  refine wg_iconst dX3_init_71 ⟨by decide, by decide⟩ ?_
  refine wg_putI dX3_init_72 (fl_X3_45 rfl) rfl rfl rfl ?_
  refine wg_aload_n dX3_init_75 rfl (by decide) ?_
  refine wg_aload_n dX3_init_76 rfl (by decide) ?_
  refine wg_putFR dX3_init_77 (fl_X3_48 rfl) rfl rfl (fun v => rfl) (fun ad => by unfold cr; split <;> rfl) rfl rfl (fun r h => by cases h; rfl) rfl (by decide) ?_
  exact wp_vret rfl dX3_init_80 ⟨Nat.le_refl _, Nat.le_refl _⟩ kk
def mk4 (M : MM) : MM := stR (stI (stR (stN M) 4 1 5) 4 2 0) 4 0 2
set_option maxRecDepth 100000 in
theorem ok4_init {G : GG} {d : Nat} {M : MM} {Q : Option AV → MM → Prop} (hM : M.1 = 4) (hd : 1 ≤ d) (kk : Q none (mk4 M)) : Ok G mX4_init d 1 4 [vR 4, vR 2] M Q := by
  refine Ok_of rfl (Nat.le_of_ble_eq_true rfl) rfl ?_
  refine wg_aload_n dX4_init_0 rfl (by decide) ?_
  refine wg_objInit dX4_init_1 lk_X4_3 oi_i oi_c (by decide) (Nat.le_of_ble_eq_true rfl) hd ?_
  refine wg_aload_n dX4_init_4 rfl (by decide) ?_
  refine wg_iconst dX4_init_5 ⟨by decide, by decide⟩ ?_
  refine wg_newI' (N := 4) (q := 5) dX4_init_6 ac_I (by show M.1 + 0 + 1 = 5; omega) rfl rfl rfl ⟨Nat.le_of_ble_eq_true rfl, Nat.le_of_ble_eq_true rfl⟩ ?_
  refine wg_putFR dX4_init_8 (fl_X4_11 rfl) rfl rfl (fun v => rfl) (fun ad => by unfold cr; split <;> rfl) rfl rfl (fun r h => by cases h; rfl) rfl (by decide) ?_
  refine wg_aload_n dX4_init_11 rfl (by decide) ?_
  refine wg_iconst dX4_init_12 ⟨by decide, by decide⟩ ?_
  refine wg_putI dX4_init_13 (fl_X4_15 rfl) rfl rfl rfl ?_
  refine wg_aload_n dX4_init_16 rfl (by decide) ?_
  refine wg_aload_n dX4_init_17 rfl (by decide) ?_
  refine wg_putFR dX4_init_18 (fl_X4_19 rfl) rfl rfl (fun v => rfl) (fun ad => by unfold cr; split <;> rfl) rfl rfl (fun r h => by cases h; rfl) rfl (by decide) ?_
  exact wp_vret rfl dX4_init_21 ⟨Nat.le_refl _, Nat.le_refl _⟩ kk
def mk5 (p : Nat) (M : MM) : MM := stR (stN (stR (stN (stR (stN (stI M p 0 0)) p 1 (p + 1))) p 2 (p + 2))) p 3 (p + 3)
set_option maxRecDepth 100000 in
theorem ok5_init {G : GG} {d : Nat} {M : MM} {Q : Option AV → MM → Prop} {p : Nat} (hM : M.1 = p) (hk : kd p = 5) (hd : 1 ≤ d) (kk : Q none (mk5 p M)) : Ok G mX5_init d 3 12 [vR p] M Q := by
  refine Ok_of rfl (Nat.le_of_ble_eq_true rfl) rfl ?_
  refine wg_aload_n dX5_init_0 rfl (kn5 hk) ?_
  refine wg_objInit dX5_init_1 lk_X5_5 oi_i oi_c (by rw [hk]; decide) (Nat.le_of_ble_eq_true rfl) hd ?_
  refine wg_aload_n dX5_init_4 rfl (kn5 hk) ?_
  refine wg_iconst dX5_init_5 ⟨by decide, by decide⟩ ?_
  refine wg_putI dX5_init_6 (fl_X5_11 rfl) rfl rfl hk ?_
  refine wg_aload_n dX5_init_9 rfl (kn5 hk) ?_
  refine wg_iconst dX5_init_10 ⟨by decide, by decide⟩ ?_
  refine wg_newI' (N := 4) (q := (p + 1)) dX5_init_11 ac_I (by show M.1 + 0 + 1 = (p + 1); omega) (k5 hk).1.1 rfl (k5 hk).1.2 ⟨Nat.le_of_ble_eq_true rfl, Nat.le_of_ble_eq_true rfl⟩ ?_
  refine wg_putFR dX5_init_13 (fl_X5_17 rfl) rfl rfl (fun v => rfl) (fun ad => by unfold cr; split <;> rfl) rfl rfl (fun r h => by cases h; rfl) hk (kl10 (k5 hk).1.1) ?_
  refine wg_aload_n dX5_init_16 rfl (kn5 hk) ?_
  refine wg_iconst dX5_init_17 ⟨by decide, by decide⟩ ?_
  refine wg_newI' (N := 4) (q := (p + 2)) dX5_init_18 ac_I (by show M.1 + 1 + 1 = (p + 2); omega) (k5 hk).2.1.1 rfl (k5 hk).2.1.2 ⟨Nat.le_of_ble_eq_true rfl, Nat.le_of_ble_eq_true rfl⟩ ?_
  refine wg_putFR dX5_init_20 (fl_X5_21 rfl) rfl rfl (fun v => rfl) (fun ad => by unfold cr; split <;> rfl) rfl rfl (fun r h => by cases h; rfl) hk (kl10 (k5 hk).2.1.1) ?_
  refine wg_aload_n dX5_init_23 rfl (kn5 hk) ?_
  refine wg_iconst dX5_init_24 ⟨by decide, by decide⟩ ?_
  refine wg_newI' (N := 4) (q := (p + 3)) dX5_init_25 ac_I (by show M.1 + 2 + 1 = (p + 3); omega) (k5 hk).2.2.1 rfl (k5 hk).2.2.2 ⟨Nat.le_of_ble_eq_true rfl, Nat.le_of_ble_eq_true rfl⟩ ?_
  refine wg_putFR dX5_init_27 (fl_X5_24 rfl) rfl rfl (fun v => rfl) (fun ad => by unfold cr; split <;> rfl) rfl rfl (fun r h => by cases h; rfl) hk (kl10 (k5 hk).2.2.1) ?_
  exact wp_vret rfl dX5_init_30 ⟨Nat.le_refl _, Nat.le_refl _⟩ kk
def mk6 (M : MM) : MM := stR (stN (stR (stN (stR (stN (stR (stN (stI M 30 0 1)) 30 1 31)) 30 2 32)) 30 3 33)) 30 4 34
set_option maxRecDepth 100000 in
theorem ok6_init {G : GG} {d : Nat} {M : MM} {Q : Option AV → MM → Prop} (hM : M.1 = 30) (hd : 1 ≤ d) (kk : Q none (mk6 M)) : Ok G mX6_init d 4 4096 [vR 30] M Q := by
  refine Ok_of rfl (Nat.le_of_ble_eq_true rfl) rfl ?_
  refine wg_aload_n dX6_init_0 rfl (by decide) ?_
  refine wg_objInit dX6_init_1 lk_X6_3 oi_i oi_c (by decide) (Nat.le_of_ble_eq_true rfl) hd ?_
  refine wg_aload_n dX6_init_4 rfl (by decide) ?_
  refine wg_iconst dX6_init_5 ⟨by decide, by decide⟩ ?_
  refine wg_putI dX6_init_6 (fl_X6_9 rfl) rfl rfl rfl ?_
  refine wg_aload_n dX6_init_9 rfl (by decide) ?_
  refine wg_sipush dX6_init_10 ⟨by decide, by decide⟩ ?_
  refine wg_newI' (N := 1024) (q := 31) dX6_init_13 ac_I (by show M.1 + 0 + 1 = 31; omega) rfl rfl rfl ⟨Nat.le_of_ble_eq_true rfl, Nat.le_of_ble_eq_true rfl⟩ ?_
  refine wg_putFR dX6_init_15 (fl_X6_15 rfl) rfl rfl (fun v => rfl) (fun ad => by unfold cr; split <;> rfl) rfl rfl (fun r h => by cases h; rfl) rfl (by decide) ?_
  refine wg_aload_n dX6_init_18 rfl (by decide) ?_
  refine wg_sipush dX6_init_19 ⟨by decide, by decide⟩ ?_
  refine wg_newI' (N := 1024) (q := 32) dX6_init_22 ac_I (by show M.1 + 1 + 1 = 32; omega) rfl rfl rfl ⟨Nat.le_of_ble_eq_true rfl, Nat.le_of_ble_eq_true rfl⟩ ?_
  refine wg_putFR dX6_init_24 (fl_X6_19 rfl) rfl rfl (fun v => rfl) (fun ad => by unfold cr; split <;> rfl) rfl rfl (fun r h => by cases h; rfl) rfl (by decide) ?_
  refine wg_aload_n dX6_init_27 rfl (by decide) ?_
  refine wg_sipush dX6_init_28 ⟨by decide, by decide⟩ ?_
  refine wg_newI' (N := 1024) (q := 33) dX6_init_31 ac_I (by show M.1 + 2 + 1 = 33; omega) rfl rfl rfl ⟨Nat.le_of_ble_eq_true rfl, Nat.le_of_ble_eq_true rfl⟩ ?_
  refine wg_putFR dX6_init_33 (fl_X6_22 rfl) rfl rfl (fun v => rfl) (fun ad => by unfold cr; split <;> rfl) rfl rfl (fun r h => by cases h; rfl) rfl (by decide) ?_
  refine wg_aload_n dX6_init_36 rfl (by decide) ?_
  refine wg_sipush dX6_init_37 ⟨by decide, by decide⟩ ?_
  refine wg_newI' (N := 1024) (q := 34) dX6_init_40 ac_I (by show M.1 + 3 + 1 = 34; omega) rfl rfl rfl ⟨Nat.le_of_ble_eq_true rfl, Nat.le_of_ble_eq_true rfl⟩ ?_
  refine wg_putFR dX6_init_42 (fl_X6_25 rfl) rfl rfl (fun v => rfl) (fun ad => by unfold cr; split <;> rfl) rfl rfl (fun r h => by cases h; rfl) rfl (by decide) ?_
  exact wp_vret rfl dX6_init_45 ⟨Nat.le_refl _, Nat.le_refl _⟩ kk
def mk7 (p : Nat) (M : MM) : MM := stR (stN (stR (stN (stR (stN (stR (stN (stR (stN (stR (stN (stR (stN (stR (stN (stR (stN (stR (stN (stR (stN (stI (stI (stI (stI (stI (stI (stI (stI M p 0 0) p 1 0) p 2 0) p 3 0) p 4 0) p 5 0) p 6 0) p 7 0)) p 8 (p + 1))) p 9 (p + 2))) p 10 (p + 3))) p 11 (p + 4))) p 12 (p + 5))) p 13 (p + 6))) p 14 (p + 7))) p 15 (p + 8))) p 16 (p + 9))) p 17 (p + 10))) p 18 (p + 11)
set_option maxRecDepth 100000 in
theorem ok7_init {G : GG} {d : Nat} {M : MM} {Q : Option AV → MM → Prop} {p : Nat} (hM : M.1 = p) (hk : kd p = 7) (hd : 1 ≤ d) (kk : Q none (mk7 p M)) : Ok G mX7_init d 11 88 [vR p] M Q := by
  refine Ok_of rfl (Nat.le_of_ble_eq_true rfl) rfl ?_
  refine wg_aload_n dX7_init_0 rfl (kn7 hk) ?_
  refine wg_objInit dX7_init_1 lk_X7_3 oi_i oi_c (by rw [hk]; decide) (Nat.le_of_ble_eq_true rfl) hd ?_
  refine wg_aload_n dX7_init_4 rfl (kn7 hk) ?_
  refine wg_iconst dX7_init_5 ⟨by decide, by decide⟩ ?_
  refine wg_putI dX7_init_6 (fl_X7_9 rfl) rfl rfl hk ?_
  refine wg_aload_n dX7_init_9 rfl (kn7 hk) ?_
  refine wg_iconst dX7_init_10 ⟨by decide, by decide⟩ ?_
  refine wg_putI dX7_init_11 (fl_X7_15 rfl) rfl rfl hk ?_
  refine wg_aload_n dX7_init_14 rfl (kn7 hk) ?_
  refine wg_iconst dX7_init_15 ⟨by decide, by decide⟩ ?_
  refine wg_putI dX7_init_16 (fl_X7_18 rfl) rfl rfl hk ?_
  refine wg_aload_n dX7_init_19 rfl (kn7 hk) ?_
  refine wg_iconst dX7_init_20 ⟨by decide, by decide⟩ ?_
  refine wg_putI dX7_init_21 (fl_X7_21 rfl) rfl rfl hk ?_
  refine wg_aload_n dX7_init_24 rfl (kn7 hk) ?_
  refine wg_iconst dX7_init_25 ⟨by decide, by decide⟩ ?_
  refine wg_putI dX7_init_26 (fl_X7_24 rfl) rfl rfl hk ?_
  refine wg_aload_n dX7_init_29 rfl (kn7 hk) ?_
  refine wg_iconst dX7_init_30 ⟨by decide, by decide⟩ ?_
  refine wg_putI dX7_init_31 (fl_X7_27 rfl) rfl rfl hk ?_
  refine wg_aload_n dX7_init_34 rfl (kn7 hk) ?_
  refine wg_iconst dX7_init_35 ⟨by decide, by decide⟩ ?_
  refine wg_putI dX7_init_36 (fl_X7_30 rfl) rfl rfl hk ?_
  refine wg_aload_n dX7_init_39 rfl (kn7 hk) ?_
  refine wg_iconst dX7_init_40 ⟨by decide, by decide⟩ ?_
  refine wg_putI dX7_init_41 (fl_X7_33 rfl) rfl rfl hk ?_
  refine wg_aload_n dX7_init_44 rfl (kn7 hk) ?_
  refine wg_bipush dX7_init_45 ⟨by decide, by decide⟩ ?_
  refine wg_newI' (N := 10) (q := (p + 1)) dX7_init_47 ac_I (by show M.1 + 0 + 1 = (p + 1); omega) (k7' hk 8 (Nat.le_of_ble_eq_true rfl) (Nat.le_of_ble_eq_true rfl) rfl) rfl (l7' hk 8 (Nat.le_of_ble_eq_true rfl) (Nat.le_of_ble_eq_true rfl) rfl rfl) ⟨Nat.le_of_ble_eq_true rfl, Nat.le_of_ble_eq_true rfl⟩ ?_
  refine wg_putFR dX7_init_49 (fl_X7_36 rfl) rfl rfl (fun v => rfl) (fun ad => by unfold cr; split <;> rfl) rfl rfl (fun r h => by cases h; rfl) hk (kl10 (k7' hk 8 (Nat.le_of_ble_eq_true rfl) (Nat.le_of_ble_eq_true rfl) rfl)) ?_
  refine wg_aload_n dX7_init_52 rfl (kn7 hk) ?_
  refine wg_bipush dX7_init_53 ⟨by decide, by decide⟩ ?_
  refine wg_newI' (N := 10) (q := (p + 2)) dX7_init_55 ac_I (by show M.1 + 1 + 1 = (p + 2); omega) (k7' hk 9 (Nat.le_of_ble_eq_true rfl) (Nat.le_of_ble_eq_true rfl) rfl) rfl (l7' hk 9 (Nat.le_of_ble_eq_true rfl) (Nat.le_of_ble_eq_true rfl) rfl rfl) ⟨Nat.le_of_ble_eq_true rfl, Nat.le_of_ble_eq_true rfl⟩ ?_
  refine wg_putFR dX7_init_57 (fl_X7_40 rfl) rfl rfl (fun v => rfl) (fun ad => by unfold cr; split <;> rfl) rfl rfl (fun r h => by cases h; rfl) hk (kl10 (k7' hk 9 (Nat.le_of_ble_eq_true rfl) (Nat.le_of_ble_eq_true rfl) rfl)) ?_
  refine wg_aload_n dX7_init_60 rfl (kn7 hk) ?_
  refine wg_bipush dX7_init_61 ⟨by decide, by decide⟩ ?_
  refine wg_newI' (N := 12) (q := (p + 3)) dX7_init_63 ac_I (by show M.1 + 2 + 1 = (p + 3); omega) (k7' hk 10 (Nat.le_of_ble_eq_true rfl) (Nat.le_of_ble_eq_true rfl) rfl) rfl (l7' hk 10 (Nat.le_of_ble_eq_true rfl) (Nat.le_of_ble_eq_true rfl) rfl rfl) ⟨Nat.le_of_ble_eq_true rfl, Nat.le_of_ble_eq_true rfl⟩ ?_
  refine wg_putFR dX7_init_65 (fl_X7_43 rfl) rfl rfl (fun v => rfl) (fun ad => by unfold cr; split <;> rfl) rfl rfl (fun r h => by cases h; rfl) hk (kl10 (k7' hk 10 (Nat.le_of_ble_eq_true rfl) (Nat.le_of_ble_eq_true rfl) rfl)) ?_
  refine wg_aload_n dX7_init_68 rfl (kn7 hk) ?_
  refine wg_bipush dX7_init_69 ⟨by decide, by decide⟩ ?_
  refine wg_newI' (N := 12) (q := (p + 4)) dX7_init_71 ac_I (by show M.1 + 3 + 1 = (p + 4); omega) (k7' hk 11 (Nat.le_of_ble_eq_true rfl) (Nat.le_of_ble_eq_true rfl) rfl) rfl (l7' hk 11 (Nat.le_of_ble_eq_true rfl) (Nat.le_of_ble_eq_true rfl) rfl rfl) ⟨Nat.le_of_ble_eq_true rfl, Nat.le_of_ble_eq_true rfl⟩ ?_
  refine wg_putFR dX7_init_73 (fl_X7_46 rfl) rfl rfl (fun v => rfl) (fun ad => by unfold cr; split <;> rfl) rfl rfl (fun r h => by cases h; rfl) hk (kl10 (k7' hk 11 (Nat.le_of_ble_eq_true rfl) (Nat.le_of_ble_eq_true rfl) rfl)) ?_
  refine wg_aload_n dX7_init_76 rfl (kn7 hk) ?_
  refine wg_bipush dX7_init_77 ⟨by decide, by decide⟩ ?_
  refine wg_newI' (N := 8) (q := (p + 5)) dX7_init_79 ac_I (by show M.1 + 4 + 1 = (p + 5); omega) (k7' hk 12 (Nat.le_of_ble_eq_true rfl) (Nat.le_of_ble_eq_true rfl) rfl) rfl (l7' hk 12 (Nat.le_of_ble_eq_true rfl) (Nat.le_of_ble_eq_true rfl) rfl rfl) ⟨Nat.le_of_ble_eq_true rfl, Nat.le_of_ble_eq_true rfl⟩ ?_
  refine wg_putFR dX7_init_81 (fl_X7_49 rfl) rfl rfl (fun v => rfl) (fun ad => by unfold cr; split <;> rfl) rfl rfl (fun r h => by cases h; rfl) hk (kl10 (k7' hk 12 (Nat.le_of_ble_eq_true rfl) (Nat.le_of_ble_eq_true rfl) rfl)) ?_
  refine wg_aload_n dX7_init_84 rfl (kn7 hk) ?_
  refine wg_bipush dX7_init_85 ⟨by decide, by decide⟩ ?_
  refine wg_newI' (N := 8) (q := (p + 6)) dX7_init_87 ac_I (by show M.1 + 5 + 1 = (p + 6); omega) (k7' hk 13 (Nat.le_of_ble_eq_true rfl) (Nat.le_of_ble_eq_true rfl) rfl) rfl (l7' hk 13 (Nat.le_of_ble_eq_true rfl) (Nat.le_of_ble_eq_true rfl) rfl rfl) ⟨Nat.le_of_ble_eq_true rfl, Nat.le_of_ble_eq_true rfl⟩ ?_
  refine wg_putFR dX7_init_89 (fl_X7_52 rfl) rfl rfl (fun v => rfl) (fun ad => by unfold cr; split <;> rfl) rfl rfl (fun r h => by cases h; rfl) hk (kl10 (k7' hk 13 (Nat.le_of_ble_eq_true rfl) (Nat.le_of_ble_eq_true rfl) rfl)) ?_
  refine wg_aload_n dX7_init_92 rfl (kn7 hk) ?_
  refine wg_iconst dX7_init_93 ⟨by decide, by decide⟩ ?_
  refine wg_newI' (N := 4) (q := (p + 7)) dX7_init_94 ac_I (by show M.1 + 6 + 1 = (p + 7); omega) (k7' hk 14 (Nat.le_of_ble_eq_true rfl) (Nat.le_of_ble_eq_true rfl) rfl) rfl (l7' hk 14 (Nat.le_of_ble_eq_true rfl) (Nat.le_of_ble_eq_true rfl) rfl rfl) ⟨Nat.le_of_ble_eq_true rfl, Nat.le_of_ble_eq_true rfl⟩ ?_
  refine wg_putFR dX7_init_96 (fl_X7_55 rfl) rfl rfl (fun v => rfl) (fun ad => by unfold cr; split <;> rfl) rfl rfl (fun r h => by cases h; rfl) hk (kl10 (k7' hk 14 (Nat.le_of_ble_eq_true rfl) (Nat.le_of_ble_eq_true rfl) rfl)) ?_
  refine wg_aload_n dX7_init_99 rfl (kn7 hk) ?_
  refine wg_bipush dX7_init_100 ⟨by decide, by decide⟩ ?_
  refine wg_newI' (N := 6) (q := (p + 8)) dX7_init_102 ac_I (by show M.1 + 7 + 1 = (p + 8); omega) (k7' hk 15 (Nat.le_of_ble_eq_true rfl) (Nat.le_of_ble_eq_true rfl) rfl) rfl (l7' hk 15 (Nat.le_of_ble_eq_true rfl) (Nat.le_of_ble_eq_true rfl) rfl rfl) ⟨Nat.le_of_ble_eq_true rfl, Nat.le_of_ble_eq_true rfl⟩ ?_
  refine wg_putFR dX7_init_104 (fl_X7_58 rfl) rfl rfl (fun v => rfl) (fun ad => by unfold cr; split <;> rfl) rfl rfl (fun r h => by cases h; rfl) hk (kl10 (k7' hk 15 (Nat.le_of_ble_eq_true rfl) (Nat.le_of_ble_eq_true rfl) rfl)) ?_
  refine wg_aload_n dX7_init_107 rfl (kn7 hk) ?_
  refine wg_bipush dX7_init_108 ⟨by decide, by decide⟩ ?_
  refine wg_newI' (N := 6) (q := (p + 9)) dX7_init_110 ac_I (by show M.1 + 8 + 1 = (p + 9); omega) (k7' hk 16 (Nat.le_of_ble_eq_true rfl) (Nat.le_of_ble_eq_true rfl) rfl) rfl (l7' hk 16 (Nat.le_of_ble_eq_true rfl) (Nat.le_of_ble_eq_true rfl) rfl rfl) ⟨Nat.le_of_ble_eq_true rfl, Nat.le_of_ble_eq_true rfl⟩ ?_
  refine wg_putFR dX7_init_112 (fl_X7_61 rfl) rfl rfl (fun v => rfl) (fun ad => by unfold cr; split <;> rfl) rfl rfl (fun r h => by cases h; rfl) hk (kl10 (k7' hk 16 (Nat.le_of_ble_eq_true rfl) (Nat.le_of_ble_eq_true rfl) rfl)) ?_
  refine wg_aload_n dX7_init_115 rfl (kn7 hk) ?_
  refine wg_bipush dX7_init_116 ⟨by decide, by decide⟩ ?_
  refine wg_newI' (N := 6) (q := (p + 10)) dX7_init_118 ac_I (by show M.1 + 9 + 1 = (p + 10); omega) (k7' hk 17 (Nat.le_of_ble_eq_true rfl) (Nat.le_of_ble_eq_true rfl) rfl) rfl (l7' hk 17 (Nat.le_of_ble_eq_true rfl) (Nat.le_of_ble_eq_true rfl) rfl rfl) ⟨Nat.le_of_ble_eq_true rfl, Nat.le_of_ble_eq_true rfl⟩ ?_
  refine wg_putFR dX7_init_120 (fl_X7_64 rfl) rfl rfl (fun v => rfl) (fun ad => by unfold cr; split <;> rfl) rfl rfl (fun r h => by cases h; rfl) hk (kl10 (k7' hk 17 (Nat.le_of_ble_eq_true rfl) (Nat.le_of_ble_eq_true rfl) rfl)) ?_
  refine wg_aload_n dX7_init_123 rfl (kn7 hk) ?_
  refine wg_bipush dX7_init_124 ⟨by decide, by decide⟩ ?_
  refine wg_newI' (N := 6) (q := (p + 11)) dX7_init_126 ac_I (by show M.1 + 10 + 1 = (p + 11); omega) (k7' hk 18 (Nat.le_of_ble_eq_true rfl) (Nat.le_of_ble_eq_true rfl) rfl) rfl (l7' hk 18 (Nat.le_of_ble_eq_true rfl) (Nat.le_of_ble_eq_true rfl) rfl rfl) ⟨Nat.le_of_ble_eq_true rfl, Nat.le_of_ble_eq_true rfl⟩ ?_
  refine wg_putFR dX7_init_128 (fl_X7_67 rfl) rfl rfl (fun v => rfl) (fun ad => by unfold cr; split <;> rfl) rfl rfl (fun r h => by cases h; rfl) hk (kl10 (k7' hk 18 (Nat.le_of_ble_eq_true rfl) (Nat.le_of_ble_eq_true rfl) rfl)) ?_
  exact wp_vret rfl dX7_init_131 ⟨Nat.le_refl _, Nat.le_refl _⟩ kk
