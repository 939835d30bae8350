/-! ===== the constructor of the reference (by program) ===== -/
def mk9 (M : MM) : List Nat → MM
  | [] => M
  | s :: l => stR (stN (mk9 M l)) 96 s (97 + l.length)
def lk9 (d : Nat) (s : Nat) : List Nat → Nat
  | [] => d
  | a :: l => if s = a then 97 + l.length else lk9 d s l
theorem mk9_1 {M : MM} (hM : M.1 = 96) : ∀ l, (mk9 M l).1 = 96 + l.length
  | [] => hM
  | s :: l => by
    have := mk9_1 hM l
    show (mk9 M l).1 + 1 = _
    rw [List.length_cons]
    omega
theorem mk9_R {M : MM} (hM : M.1 = 96) (s : Nat) : ∀ l, gR (mk9 M l) 96 s = lk9 (gR M 96 s) s l
  | [] => rfl
  | a :: l => by
    have h1 := mk9_1 hM l
    have h2 := mk9_R hM s l
    show gR (stR (stN (mk9 M l)) 96 a (97 + l.length)) 96 s = if s = a then 97 + l.length else lk9 (gR M 96 s) s l
    rw [gR_st, gR_N, if_neg (show ¬ 96 = (mk9 M l).1 + 1 by omega), h2]
    by_cases e : s = a
    · rw [if_pos ⟨rfl, e⟩, if_pos e]
    · rw [if_neg (fun z => e z.2), if_neg e]
theorem mk9_lo {M : MM} (hM : M.1 = 96) (q j : Nat) (hq : q ≤ 96) : ∀ l, gI (mk9 M l) q j = gI M q j ∧ (q < 96 → gR (mk9 M l) q j = gR M q j)
  | [] => ⟨rfl, fun _ => rfl⟩
  | a :: l => by
    have h1 := mk9_1 hM l
    obtain ⟨h2, h3⟩ := mk9_lo hM q j hq l
    refine ⟨?_, fun hq2 => ?_⟩
    · show gI (stN (mk9 M l)) q j = gI M q j
      rw [gI_N, if_neg (by omega), h2]
    · show gR (stR (stN (mk9 M l)) 96 a (97 + l.length)) q j = gR M q j
      rw [gR_ne _ _ (by omega), gR_N, if_neg (by omega), h3 hq2]
theorem nS {k : Nat} {c : Int} (hk : k < 15) (hc : sg t00 81 (aP k) = c) : okI (wS k) c (xs t00 81 (aP k)) ∧ adI (wS k) c (xs t00 81 (aP k)) = wS (k + 1) := by
  have h := (itS' hk).2.2
  rw [hc] at h
  refine ⟨h, ?_⟩
  show _ = adI (wS k) (sg t00 81 (aP k)) (xs t00 81 (aP k))
  rw [hc]
section INITM
variable {G : GG} {M : MM} {d : Nat} {Q : Option AV → MM → Prop} {k : Nat}
theorem i9_T {a b : Int} (hk : k < 15) (hc : sg t00 81 (aP k) = 116) (h0 : ((xs t00 81 (aP k) 0 : Nat) : Int) = a) (h1 : ((xs t00 81 (aP k) 1 : Nat) : Int) = b) (hS : ShM M) (hw : MW M (wS k)) (kk : ∀ M', ChA M M' → MW M' (wS (k + 1)) → Q none M') : Ok G mX9_addThing d 0 0 [vR 96, vI a, vI b] M Q := by
  subst h0 h1
  obtain ⟨h2, h3⟩ := nS hk hc
  exact ok9_addThing hS hw (wS_ok k (by omega)) h2 fun M' c hw' => kk M' c (by rw [← h3]; exact hw')
theorem i9_Y {a b : Int} (hk : k < 15) (hc : sg t00 81 (aP k) = 121) (h0 : ((xs t00 81 (aP k) 0 : Nat) : Int) = a) (h1 : ((xs t00 81 (aP k) 1 : Nat) : Int) = b) (hS : ShM M) (hw : MW M (wS k)) (kk : ∀ M', ChA M M' → MW M' (wS (k + 1)) → Q none M') : Ok G mX9_addNeed d 0 0 [vR 96, vI a, vI b] M Q := by
  subst h0 h1
  obtain ⟨h2, h3⟩ := nS hk hc
  exact ok9_addNeed hS hw (wS_ok k (by omega)) h2 fun M' c hw' => kk M' c (by rw [← h3]; exact hw')
theorem i9_P {a b : Int} (hk : k < 15) (hc : sg t00 81 (aP k) = 112) (h0 : ((xs t00 81 (aP k) 0 : Nat) : Int) = a) (h1 : ((xs t00 81 (aP k) 1 : Nat) : Int) = b) (hS : ShM M) (hw : MW M (wS k)) (kk : ∀ M', ChA M M' → MW M' (wS (k + 1)) → Q none M') : Ok G mX9_addPerson d 0 0 [vR 96, vI a, vI b] M Q := by
  subst h0 h1
  obtain ⟨h2, h3⟩ := nS hk hc
  exact ok9_addPerson hS hw h2 fun M' c hw' => kk M' c (by rw [← h3]; exact hw')
theorem i9_B {a : Int} (hk : k < 15) (hc : sg t00 81 (aP k) = 98) (h0 : ((xs t00 81 (aP k) 0 : Nat) : Int) = a) (hS : ShM M) (hw : MW M (wS k)) (kk : ∀ M', ChA M M' → MW M' (wS (k + 1)) → Q none M') : Ok G mX9_addBeast d 0 0 [vR 96, vI a] M Q := by
  subst h0
  obtain ⟨h2, h3⟩ := nS hk hc
  exact ok9_addBeast hS hw h2 fun M' c hw' => kk M' c (by rw [← h3]; exact hw')
theorem i9_X {a b e f : Int} (hk : k < 15) (hc : sg t00 81 (aP k) = 120) (h0 : ((xs t00 81 (aP k) 0 : Nat) : Int) = a) (h1 : ((xs t00 81 (aP k) 1 : Nat) : Int) = b) (h2 : ((xs t00 81 (aP k) 2 : Nat) : Int) = e) (h3 : ((xs t00 81 (aP k) 3 : Nat) : Int) = f) (hS : ShM M) (hw : MW M (wS k)) (kk : ∀ M', ChA M M' → MW M' (wS (k + 1)) → Q none M') : Ok G mX9_addChange d 0 0 [vR 96, vI a, vI b, vI e, vI f] M Q := by
  subst h0 h1 h2 h3
  obtain ⟨h4, h5⟩ := nS hk hc
  exact ok9_addChange hS hw h4 fun M' c hw' => kk M' c (by rw [← h5]; exact hw')
end INITM
set_option maxRecDepth 100000 in
theorem ok9_init {G : GG} {M : MM} {d : Nat} {Q : Option AV → MM → Prop} (hd : 2 ≤ d) (hM : M.1 = 96) (h0 : ∀ j, gI M 96 j = 0) (kk : ∀ M', M'.1 = 110 → (∀ q j, q < 96 → gI M' q j = gI M q j ∧ gR M' q j = gR M q j) → (∀ f g, ImS M' (aZ f g)) → Q none M') : Ok G mX9_init d 14 18872 [vR 96] M Q := by
  obtain ⟨d, rfl⟩ : ∃ e, d = e + 1 := ⟨d - 1, by omega⟩
  refine Ok_of rfl (Nat.le_of_ble_eq_true rfl) rfl ?_
  refine wg_aload_n dX9_init_0 rfl (by decide) ?_
  refine wg_objInit dX9_init_1 lk_X9_1 oi_i oi_c (by decide) (Nat.le_of_ble_eq_true rfl) (by omega) ?_
  show Wp G mX9_init (d + 1) 14 18872 4 [some (vR 96)] [] (mk9 M []) 0 0 Q
  refine wg_aload_n dX9_init_4 rfl (by decide) ?_
  refine wg_sipush dX9_init_5 ⟨by decide, by decide⟩ ?_
  refine wg_newI' (N := 156) (q := 97) dX9_init_8 ac_I (by rw [mk9_1 hM]; rfl) rfl rfl rfl ⟨Nat.le_of_ble_eq_true rfl, Nat.le_of_ble_eq_true rfl⟩ ?_
  refine wg_putFR dX9_init_10 (fl_X9_7 rfl) rfl rfl (fun v => rfl) (fun ad => by unfold cr; split <;> rfl) rfl rfl (fun r h => by cases h; rfl) rfl (by decide) ?_
  show Wp G mX9_init (d + 1) 14 18872 13 [some (vR 96)] [] (mk9 M [0]) 1 156 Q
  refine wg_aload_n dX9_init_13 rfl (by decide) ?_
  refine wg_sipush dX9_init_14 ⟨by decide, by decide⟩ ?_
  refine wg_newI' (N := 200) (q := 98) dX9_init_17 ac_I (by rw [mk9_1 hM]; rfl) rfl rfl rfl ⟨Nat.le_of_ble_eq_true rfl, Nat.le_of_ble_eq_true rfl⟩ ?_
  refine wg_putFR dX9_init_19 (fl_X9_13 rfl) rfl rfl (fun v => rfl) (fun ad => by unfold cr; split <;> rfl) rfl rfl (fun r h => by cases h; rfl) rfl (by decide) ?_
  show Wp G mX9_init (d + 1) 14 18872 22 [some (vR 96)] [] (mk9 M [3, 0]) 2 356 Q
  refine wg_aload_n dX9_init_22 rfl (by decide) ?_
  refine wg_bipush dX9_init_23 ⟨by decide, by decide⟩ ?_
  refine wg_newI' (N := 10) (q := 99) dX9_init_25 ac_I (by rw [mk9_1 hM]; rfl) rfl rfl rfl ⟨Nat.le_of_ble_eq_true rfl, Nat.le_of_ble_eq_true rfl⟩ ?_
  refine wg_putFR dX9_init_27 (fl_X9_16 rfl) rfl rfl (fun v => rfl) (fun ad => by unfold cr; split <;> rfl) rfl rfl (fun r h => by cases h; rfl) rfl (by decide) ?_
  show Wp G mX9_init (d + 1) 14 18872 30 [some (vR 96)] [] (mk9 M [6, 3, 0]) 3 366 Q
  refine wg_aload_n dX9_init_30 rfl (by decide) ?_
  refine wg_bipush dX9_init_31 ⟨by decide, by decide⟩ ?_
  refine wg_newI' (N := 10) (q := 100) dX9_init_33 ac_I (by rw [mk9_1 hM]; rfl) rfl rfl rfl ⟨Nat.le_of_ble_eq_true rfl, Nat.le_of_ble_eq_true rfl⟩ ?_
  refine wg_putFR dX9_init_35 (fl_X9_19 rfl) rfl rfl (fun v => rfl) (fun ad => by unfold cr; split <;> rfl) rfl rfl (fun r h => by cases h; rfl) rfl (by decide) ?_
  show Wp G mX9_init (d + 1) 14 18872 38 [some (vR 96)] [] (mk9 M [7, 6, 3, 0]) 4 376 Q
  refine wg_aload_n dX9_init_38 rfl (by decide) ?_
  refine wg_bipush dX9_init_39 ⟨by decide, by decide⟩ ?_
  refine wg_newI' (N := 10) (q := 101) dX9_init_41 ac_I (by rw [mk9_1 hM]; rfl) rfl rfl rfl ⟨Nat.le_of_ble_eq_true rfl, Nat.le_of_ble_eq_true rfl⟩ ?_
  refine wg_putFR dX9_init_43 (fl_X9_22 rfl) rfl rfl (fun v => rfl) (fun ad => by unfold cr; split <;> rfl) rfl rfl (fun r h => by cases h; rfl) rfl (by decide) ?_
  show Wp G mX9_init (d + 1) 14 18872 46 [some (vR 96)] [] (mk9 M [8, 7, 6, 3, 0]) 5 386 Q
  refine wg_aload_n dX9_init_46 rfl (by decide) ?_
  refine wg_bipush dX9_init_47 ⟨by decide, by decide⟩ ?_
  refine wg_newI' (N := 8) (q := 102) dX9_init_49 ac_I (by rw [mk9_1 hM]; rfl) rfl rfl rfl ⟨Nat.le_of_ble_eq_true rfl, Nat.le_of_ble_eq_true rfl⟩ ?_
  refine wg_putFR dX9_init_51 (fl_X9_25 rfl) rfl rfl (fun v => rfl) (fun ad => by unfold cr; split <;> rfl) rfl rfl (fun r h => by cases h; rfl) rfl (by decide) ?_
  show Wp G mX9_init (d + 1) 14 18872 54 [some (vR 96)] [] (mk9 M [11, 8, 7, 6, 3, 0]) 6 394 Q
  refine wg_aload_n dX9_init_54 rfl (by decide) ?_
  refine wg_bipush dX9_init_55 ⟨by decide, by decide⟩ ?_
  refine wg_newI' (N := 8) (q := 103) dX9_init_57 ac_I (by rw [mk9_1 hM]; rfl) rfl rfl rfl ⟨Nat.le_of_ble_eq_true rfl, Nat.le_of_ble_eq_true rfl⟩ ?_
  refine wg_putFR dX9_init_59 (fl_X9_28 rfl) rfl rfl (fun v => rfl) (fun ad => by unfold cr; split <;> rfl) rfl rfl (fun r h => by cases h; rfl) rfl (by decide) ?_
  show Wp G mX9_init (d + 1) 14 18872 62 [some (vR 96)] [] (mk9 M [12, 11, 8, 7, 6, 3, 0]) 7 402 Q
  refine wg_aload_n dX9_init_62 rfl (by decide) ?_
  refine wg_iconst dX9_init_63 ⟨by decide, by decide⟩ ?_
  refine wg_newI' (N := 4) (q := 104) dX9_init_64 ac_I (by rw [mk9_1 hM]; rfl) rfl rfl rfl ⟨Nat.le_of_ble_eq_true rfl, Nat.le_of_ble_eq_true rfl⟩ ?_
  refine wg_putFR dX9_init_66 (fl_X9_31 rfl) rfl rfl (fun v => rfl) (fun ad => by unfold cr; split <;> rfl) rfl rfl (fun r h => by cases h; rfl) rfl (by decide) ?_
  show Wp G mX9_init (d + 1) 14 18872 69 [some (vR 96)] [] (mk9 M [14, 12, 11, 8, 7, 6, 3, 0]) 8 406 Q
  refine wg_aload_n dX9_init_69 rfl (by decide) ?_
  refine wg_bipush dX9_init_70 ⟨by decide, by decide⟩ ?_
  refine wg_newI' (N := 24) (q := 105) dX9_init_72 ac_I (by rw [mk9_1 hM]; rfl) rfl rfl rfl ⟨Nat.le_of_ble_eq_true rfl, Nat.le_of_ble_eq_true rfl⟩ ?_
  refine wg_putFR dX9_init_74 (fl_X9_34 rfl) rfl rfl (fun v => rfl) (fun ad => by unfold cr; split <;> rfl) rfl rfl (fun r h => by cases h; rfl) rfl (by decide) ?_
  show Wp G mX9_init (d + 1) 14 18872 77 [some (vR 96)] [] (mk9 M [16, 14, 12, 11, 8, 7, 6, 3, 0]) 9 430 Q
  refine wg_aload_n dX9_init_77 rfl (by decide) ?_
  refine wg_iconst dX9_init_78 ⟨by decide, by decide⟩ ?_
  refine wg_newI' (N := 4) (q := 106) dX9_init_79 ac_I (by rw [mk9_1 hM]; rfl) rfl rfl rfl ⟨Nat.le_of_ble_eq_true rfl, Nat.le_of_ble_eq_true rfl⟩ ?_
  refine wg_putFR dX9_init_81 (fl_X9_37 rfl) rfl rfl (fun v => rfl) (fun ad => by unfold cr; split <;> rfl) rfl rfl (fun r h => by cases h; rfl) rfl (by decide) ?_
  show Wp G mX9_init (d + 1) 14 18872 84 [some (vR 96)] [] (mk9 M [18, 16, 14, 12, 11, 8, 7, 6, 3, 0]) 10 434 Q
  refine wg_aload_n dX9_init_84 rfl (by decide) ?_
  refine wg_sipush dX9_init_85 ⟨by decide, by decide⟩ ?_
  refine wg_newZ' (N := 16384) (q := 107) dX9_init_88 ac_Z (by rw [mk9_1 hM]; rfl) rfl rfl rfl ⟨Nat.le_of_ble_eq_true rfl, Nat.le_of_ble_eq_true rfl⟩ ?_
  refine wg_putFR dX9_init_90 (fl_X9_40 rfl) rfl rfl (fun v => rfl) (fun ad => by unfold cr; split <;> rfl) rfl rfl (fun r h => by cases h; rfl) rfl (by decide) ?_
  show Wp G mX9_init (d + 1) 14 18872 93 [some (vR 96)] [] (mk9 M [24, 18, 16, 14, 12, 11, 8, 7, 6, 3, 0]) 11 16818 Q
  refine wg_aload_n dX9_init_93 rfl (by decide) ?_
  refine wg_sipush dX9_init_94 ⟨by decide, by decide⟩ ?_
  refine wg_newI' (N := 1024) (q := 108) dX9_init_97 ac_I (by rw [mk9_1 hM]; rfl) rfl rfl rfl ⟨Nat.le_of_ble_eq_true rfl, Nat.le_of_ble_eq_true rfl⟩ ?_
  refine wg_putFR dX9_init_99 (fl_X9_44 rfl) rfl rfl (fun v => rfl) (fun ad => by unfold cr; split <;> rfl) rfl rfl (fun r h => by cases h; rfl) rfl (by decide) ?_
  show Wp G mX9_init (d + 1) 14 18872 102 [some (vR 96)] [] (mk9 M [25, 24, 18, 16, 14, 12, 11, 8, 7, 6, 3, 0]) 12 17842 Q
  refine wg_aload_n dX9_init_102 rfl (by decide) ?_
  refine wg_sipush dX9_init_103 ⟨by decide, by decide⟩ ?_
  refine wg_newI' (N := 1024) (q := 109) dX9_init_106 ac_I (by rw [mk9_1 hM]; rfl) rfl rfl rfl ⟨Nat.le_of_ble_eq_true rfl, Nat.le_of_ble_eq_true rfl⟩ ?_
  refine wg_putFR dX9_init_108 (fl_X9_47 rfl) rfl rfl (fun v => rfl) (fun ad => by unfold cr; split <;> rfl) rfl rfl (fun r h => by cases h; rfl) rfl (by decide) ?_
  show Wp G mX9_init (d + 1) 14 18872 111 [some (vR 96)] [] (mk9 M [26, 25, 24, 18, 16, 14, 12, 11, 8, 7, 6, 3, 0]) 13 18866 Q
  refine wg_aload_n dX9_init_111 rfl (by decide) ?_
  refine wg_bipush dX9_init_112 ⟨by decide, by decide⟩ ?_
  refine wg_newI' (N := 6) (q := 110) dX9_init_114 ac_I (by rw [mk9_1 hM]; rfl) rfl rfl rfl ⟨Nat.le_of_ble_eq_true rfl, Nat.le_of_ble_eq_true rfl⟩ ?_
  refine wg_putFR dX9_init_116 (fl_X9_50 rfl) rfl rfl (fun v => rfl) (fun ad => by unfold cr; split <;> rfl) rfl rfl (fun r h => by cases h; rfl) rfl (by decide) ?_
  show Wp G mX9_init (d + 1) 14 18872 119 [some (vR 96)] [] (mk9 M [27, 26, 25, 24, 18, 16, 14, 12, 11, 8, 7, 6, 3, 0]) 14 18872 Q
  refine wg_aload_n dX9_init_119 rfl (by decide) ?_
  refine wg_iconst dX9_init_120 ⟨by decide, by decide⟩ ?_
  refine wg_iconst dX9_init_121 ⟨by decide, by decide⟩ ?_
  have hS : ShM (mk9 M [27, 26, 25, 24, 18, 16, 14, 12, 11, 8, 7, 6, 3, 0]) := ⟨(mk9_R hM _ _).trans rfl, (mk9_R hM _ _).trans rfl, (mk9_R hM _ _).trans rfl, (mk9_R hM _ _).trans rfl, (mk9_R hM _ _).trans rfl, (mk9_R hM _ _).trans rfl, (mk9_R hM _ _).trans rfl, (mk9_R hM _ _).trans rfl, (mk9_R hM _ _).trans rfl, (mk9_R hM _ _).trans rfl, (mk9_R hM _ _).trans rfl, (mk9_R hM _ _).trans rfl, (mk9_R hM _ _).trans rfl, (mk9_R hM _ _).trans rfl⟩
  have hw : MW (mk9 M [27, 26, 25, 24, 18, 16, 14, 12, 11, 8, 7, 6, 3, 0]) (wS 0) := by
    have z : ∀ j, gI (mk9 M [27, 26, 25, 24, 18, 16, 14, 12, 11, 8, 7, 6, 3, 0]) 96 j = 0 := fun j => ((mk9_lo hM 96 j (Nat.le_refl _) _).1).trans (h0 j)
    exact ⟨⟨z 5, z 9, z 10, z 13, z 15⟩, fun i hi => absurd hi (Nat.not_lt_zero i), fun i hi => absurd hi (Nat.not_lt_zero i), fun i hi => absurd hi (Nat.not_lt_zero i), fun i hi => absurd hi (Nat.not_lt_zero i)⟩
  have hlo : ∀ q j, q < 96 → gI (mk9 M [27, 26, 25, 24, 18, 16, 14, 12, 11, 8, 7, 6, 3, 0]) q j = gI M q j ∧ gR (mk9 M [27, 26, 25, 24, 18, 16, 14, 12, 11, 8, 7, 6, 3, 0]) q j = gR M q j := fun q j hq => ⟨(mk9_lo hM q j (by omega) _).1, (mk9_lo hM q j (by omega) _).2 hq⟩
  have h96 : ∀ j, gI (mk9 M [27, 26, 25, 24, 18, 16, 14, 12, 11, 8, 7, 6, 3, 0]) 96 j = 0 := fun j => ((mk9_lo hM 96 j (Nat.le_refl _) _).1).trans (h0 j)
  have h110 : (mk9 M [27, 26, 25, 24, 18, 16, 14, 12, 11, 8, 7, 6, 3, 0]).1 = 110 := mk9_1 hM _
  generalize mk9 M [27, 26, 25, 24, 18, 16, 14, 12, 11, 8, 7, 6, 3, 0] = A at *
  have cA : ChA A A := ChA.rf
  have hSB := hS
  refine wg_callV (I' := mX9_addThing) (ci := 9) (np := 2) (d' := d) (q := 96) (as := [vI 5, vI 1]) (st := []) (Qc := fun v B => v = none ∧ ChA A B ∧ MW B (wS 1)) dX9_init_122 lk_X9_53 ci_X9_addThing rfl (Nat.le_of_ble_eq_true rfl) rfl rfl (Nat.le_of_ble_eq_true rfl) rfl (Nat.le_refl _) ⟨Nat.le_refl _, Nat.le_refl _⟩ (i9_T (k := 0) (by decide) (by decide +kernel) (by decide +kernel) (by decide +kernel) hSB hw fun B c h => ⟨rfl, c, h⟩) (fun v B0 h => ?_)
  obtain ⟨rfl, cK, hw⟩ := h
  replace cA := cA.tr cK
  replace hSB := cA.sh hS
  clear cK
  refine wg_aload_n dX9_init_125 rfl (by decide) ?_
  refine wg_iconst dX9_init_126 ⟨by decide, by decide⟩ ?_
  refine wg_iconst dX9_init_127 ⟨by decide, by decide⟩ ?_
  refine wg_callV (I' := mX9_addThing) (ci := 9) (np := 2) (d' := d) (q := 96) (as := [vI 4, vI 1]) (st := []) (Qc := fun v B => v = none ∧ ChA B0 B ∧ MW B (wS 2)) dX9_init_128 lk_X9_53 ci_X9_addThing rfl (Nat.le_of_ble_eq_true rfl) rfl rfl (Nat.le_of_ble_eq_true rfl) rfl (Nat.le_refl _) ⟨Nat.le_refl _, Nat.le_refl _⟩ (i9_T (k := 1) (by decide) (by decide +kernel) (by decide +kernel) (by decide +kernel) hSB hw fun B c h => ⟨rfl, c, h⟩) (fun v B1 h => ?_)
  obtain ⟨rfl, cK, hw⟩ := h
  replace cA := cA.tr cK
  replace hSB := cA.sh hS
  clear cK
  refine wg_aload_n dX9_init_131 rfl (by decide) ?_
  refine wg_bipush dX9_init_132 ⟨by decide, by decide⟩ ?_
  refine wg_iconst dX9_init_134 ⟨by decide, by decide⟩ ?_
  refine wg_callV (I' := mX9_addThing) (ci := 9) (np := 2) (d' := d) (q := 96) (as := [vI 6, vI 0]) (st := []) (Qc := fun v B => v = none ∧ ChA B1 B ∧ MW B (wS 3)) dX9_init_135 lk_X9_53 ci_X9_addThing rfl (Nat.le_of_ble_eq_true rfl) rfl rfl (Nat.le_of_ble_eq_true rfl) rfl (Nat.le_refl _) ⟨Nat.le_refl _, Nat.le_refl _⟩ (i9_T (k := 2) (by decide) (by decide +kernel) (by decide +kernel) (by decide +kernel) hSB hw fun B c h => ⟨rfl, c, h⟩) (fun v B2 h => ?_)
  obtain ⟨rfl, cK, hw⟩ := h
  replace cA := cA.tr cK
  replace hSB := cA.sh hS
  clear cK
  refine wg_aload_n dX9_init_138 rfl (by decide) ?_
  refine wg_bipush dX9_init_139 ⟨by decide, by decide⟩ ?_
  refine wg_iconst dX9_init_141 ⟨by decide, by decide⟩ ?_
  refine wg_callV (I' := mX9_addThing) (ci := 9) (np := 2) (d' := d) (q := 96) (as := [vI 9, vI 2]) (st := []) (Qc := fun v B => v = none ∧ ChA B2 B ∧ MW B (wS 4)) dX9_init_142 lk_X9_53 ci_X9_addThing rfl (Nat.le_of_ble_eq_true rfl) rfl rfl (Nat.le_of_ble_eq_true rfl) rfl (Nat.le_refl _) ⟨Nat.le_refl _, Nat.le_refl _⟩ (i9_T (k := 3) (by decide) (by decide +kernel) (by decide +kernel) (by decide +kernel) hSB hw fun B c h => ⟨rfl, c, h⟩) (fun v B3 h => ?_)
  obtain ⟨rfl, cK, hw⟩ := h
  replace cA := cA.tr cK
  replace hSB := cA.sh hS
  clear cK
  refine wg_aload_n dX9_init_145 rfl (by decide) ?_
  refine wg_bipush dX9_init_146 ⟨by decide, by decide⟩ ?_
  refine wg_iconst dX9_init_148 ⟨by decide, by decide⟩ ?_
  refine wg_callV (I' := mX9_addThing) (ci := 9) (np := 2) (d' := d) (q := 96) (as := [vI 7, vI 3]) (st := []) (Qc := fun v B => v = none ∧ ChA B3 B ∧ MW B (wS 5)) dX9_init_149 lk_X9_53 ci_X9_addThing rfl (Nat.le_of_ble_eq_true rfl) rfl rfl (Nat.le_of_ble_eq_true rfl) rfl (Nat.le_refl _) ⟨Nat.le_refl _, Nat.le_refl _⟩ (i9_T (k := 4) (by decide) (by decide +kernel) (by decide +kernel) (by decide +kernel) hSB hw fun B c h => ⟨rfl, c, h⟩) (fun v B4 h => ?_)
  obtain ⟨rfl, cK, hw⟩ := h
  replace cA := cA.tr cK
  replace hSB := cA.sh hS
  clear cK
  refine wg_aload_n dX9_init_152 rfl (by decide) ?_
  refine wg_iconst dX9_init_153 ⟨by decide, by decide⟩ ?_
  refine wg_iconst dX9_init_154 ⟨by decide, by decide⟩ ?_
  refine wg_callV (I' := mX9_addNeed) (ci := 9) (np := 2) (d' := d) (q := 96) (as := [vI 2, vI 0]) (st := []) (Qc := fun v B => v = none ∧ ChA B4 B ∧ MW B (wS 6)) dX9_init_155 lk_X9_57 ci_X9_addNeed rfl (Nat.le_of_ble_eq_true rfl) rfl rfl (Nat.le_of_ble_eq_true rfl) rfl (Nat.le_refl _) ⟨Nat.le_refl _, Nat.le_refl _⟩ (i9_Y (k := 5) (by decide) (by decide +kernel) (by decide +kernel) (by decide +kernel) hSB hw fun B c h => ⟨rfl, c, h⟩) (fun v B5 h => ?_)
  obtain ⟨rfl, cK, hw⟩ := h
  replace cA := cA.tr cK
  replace hSB := cA.sh hS
  clear cK
  refine wg_aload_n dX9_init_158 rfl (by decide) ?_
  refine wg_iconst dX9_init_159 ⟨by decide, by decide⟩ ?_
  refine wg_iconst dX9_init_160 ⟨by decide, by decide⟩ ?_
  refine wg_callV (I' := mX9_addNeed) (ci := 9) (np := 2) (d' := d) (q := 96) (as := [vI 4, vI 2]) (st := []) (Qc := fun v B => v = none ∧ ChA B5 B ∧ MW B (wS 7)) dX9_init_161 lk_X9_57 ci_X9_addNeed rfl (Nat.le_of_ble_eq_true rfl) rfl rfl (Nat.le_of_ble_eq_true rfl) rfl (Nat.le_refl _) ⟨Nat.le_refl _, Nat.le_refl _⟩ (i9_Y (k := 6) (by decide) (by decide +kernel) (by decide +kernel) (by decide +kernel) hSB hw fun B c h => ⟨rfl, c, h⟩) (fun v B6 h => ?_)
  obtain ⟨rfl, cK, hw⟩ := h
  replace cA := cA.tr cK
  replace hSB := cA.sh hS
  clear cK
  refine wg_aload_n dX9_init_164 rfl (by decide) ?_
  refine wg_iconst dX9_init_165 ⟨by decide, by decide⟩ ?_
  refine wg_iconst dX9_init_166 ⟨by decide, by decide⟩ ?_
  refine wg_callV (I' := mX9_addPerson) (ci := 9) (np := 2) (d' := d) (q := 96) (as := [vI 0, vI 3]) (st := []) (Qc := fun v B => v = none ∧ ChA B6 B ∧ MW B (wS 8)) dX9_init_167 lk_X9_60 ci_X9_addPerson rfl (Nat.le_of_ble_eq_true rfl) rfl rfl (Nat.le_of_ble_eq_true rfl) rfl (Nat.le_refl _) ⟨Nat.le_refl _, Nat.le_refl _⟩ (i9_P (k := 7) (by decide) (by decide +kernel) (by decide +kernel) (by decide +kernel) hSB hw fun B c h => ⟨rfl, c, h⟩) (fun v B7 h => ?_)
  obtain ⟨rfl, cK, hw⟩ := h
  replace cA := cA.tr cK
  replace hSB := cA.sh hS
  clear cK
  refine wg_aload_n dX9_init_170 rfl (by decide) ?_
  refine wg_iconst dX9_init_171 ⟨by decide, by decide⟩ ?_
  refine wg_iconst dX9_init_172 ⟨by decide, by decide⟩ ?_
  refine wg_callV (I' := mX9_addPerson) (ci := 9) (np := 2) (d' := d) (q := 96) (as := [vI 2, vI 5]) (st := []) (Qc := fun v B => v = none ∧ ChA B7 B ∧ MW B (wS 9)) dX9_init_173 lk_X9_60 ci_X9_addPerson rfl (Nat.le_of_ble_eq_true rfl) rfl rfl (Nat.le_of_ble_eq_true rfl) rfl (Nat.le_refl _) ⟨Nat.le_refl _, Nat.le_refl _⟩ (i9_P (k := 8) (by decide) (by decide +kernel) (by decide +kernel) (by decide +kernel) hSB hw fun B c h => ⟨rfl, c, h⟩) (fun v B8 h => ?_)
  obtain ⟨rfl, cK, hw⟩ := h
  replace cA := cA.tr cK
  replace hSB := cA.sh hS
  clear cK
  refine wg_aload_n dX9_init_176 rfl (by decide) ?_
  refine wg_iconst dX9_init_177 ⟨by decide, by decide⟩ ?_
  refine wg_iconst dX9_init_178 ⟨by decide, by decide⟩ ?_
  refine wg_callV (I' := mX9_addPerson) (ci := 9) (np := 2) (d' := d) (q := 96) (as := [vI 3, vI 1]) (st := []) (Qc := fun v B => v = none ∧ ChA B8 B ∧ MW B (wS 10)) dX9_init_179 lk_X9_60 ci_X9_addPerson rfl (Nat.le_of_ble_eq_true rfl) rfl rfl (Nat.le_of_ble_eq_true rfl) rfl (Nat.le_refl _) ⟨Nat.le_refl _, Nat.le_refl _⟩ (i9_P (k := 9) (by decide) (by decide +kernel) (by decide +kernel) (by decide +kernel) hSB hw fun B c h => ⟨rfl, c, h⟩) (fun v B9 h => ?_)
  obtain ⟨rfl, cK, hw⟩ := h
  replace cA := cA.tr cK
  replace hSB := cA.sh hS
  clear cK
  refine wg_aload_n dX9_init_182 rfl (by decide) ?_
  refine wg_iconst dX9_init_183 ⟨by decide, by decide⟩ ?_
  refine wg_iconst dX9_init_184 ⟨by decide, by decide⟩ ?_
  refine wg_callV (I' := mX9_addPerson) (ci := 9) (np := 2) (d' := d) (q := 96) (as := [vI 4, vI 2]) (st := []) (Qc := fun v B => v = none ∧ ChA B9 B ∧ MW B (wS 11)) dX9_init_185 lk_X9_60 ci_X9_addPerson rfl (Nat.le_of_ble_eq_true rfl) rfl rfl (Nat.le_of_ble_eq_true rfl) rfl (Nat.le_refl _) ⟨Nat.le_refl _, Nat.le_refl _⟩ (i9_P (k := 10) (by decide) (by decide +kernel) (by decide +kernel) (by decide +kernel) hSB hw fun B c h => ⟨rfl, c, h⟩) (fun v B10 h => ?_)
  obtain ⟨rfl, cK, hw⟩ := h
  replace cA := cA.tr cK
  replace hSB := cA.sh hS
  clear cK
  refine wg_aload_n dX9_init_188 rfl (by decide) ?_
  refine wg_bipush dX9_init_189 ⟨by decide, by decide⟩ ?_
  refine wg_callV (I' := mX9_addBeast) (ci := 9) (np := 1) (d' := d) (q := 96) (as := [vI 12]) (st := []) (Qc := fun v B => v = none ∧ ChA B10 B ∧ MW B (wS 12)) dX9_init_191 lk_X9_63 ci_X9_addBeast rfl (Nat.le_of_ble_eq_true rfl) rfl rfl (Nat.le_of_ble_eq_true rfl) rfl (Nat.le_refl _) ⟨Nat.le_refl _, Nat.le_refl _⟩ (i9_B (k := 11) (by decide) (by decide +kernel) (by decide +kernel) hSB hw fun B c h => ⟨rfl, c, h⟩) (fun v B11 h => ?_)
  obtain ⟨rfl, cK, hw⟩ := h
  replace cA := cA.tr cK
  replace hSB := cA.sh hS
  clear cK
  refine wg_aload_n dX9_init_194 rfl (by decide) ?_
  refine wg_bipush dX9_init_195 ⟨by decide, by decide⟩ ?_
  refine wg_callV (I' := mX9_addBeast) (ci := 9) (np := 1) (d' := d) (q := 96) (as := [vI 16]) (st := []) (Qc := fun v B => v = none ∧ ChA B11 B ∧ MW B (wS 13)) dX9_init_197 lk_X9_63 ci_X9_addBeast rfl (Nat.le_of_ble_eq_true rfl) rfl rfl (Nat.le_of_ble_eq_true rfl) rfl (Nat.le_refl _) ⟨Nat.le_refl _, Nat.le_refl _⟩ (i9_B (k := 12) (by decide) (by decide +kernel) (by decide +kernel) hSB hw fun B c h => ⟨rfl, c, h⟩) (fun v B12 h => ?_)
  obtain ⟨rfl, cK, hw⟩ := h
  replace cA := cA.tr cK
  replace hSB := cA.sh hS
  clear cK
  refine wg_aload_n dX9_init_200 rfl (by decide) ?_
  refine wg_iconst dX9_init_201 ⟨by decide, by decide⟩ ?_
  refine wg_iconst dX9_init_202 ⟨by decide, by decide⟩ ?_
  refine wg_iconst dX9_init_203 ⟨by decide, by decide⟩ ?_
  refine wg_iconst dX9_init_204 ⟨by decide, by decide⟩ ?_
  refine wg_callV (I' := mX9_addChange) (ci := 9) (np := 4) (d' := d) (q := 96) (as := [vI 0, vI 2, vI 1, vI 2]) (st := []) (Qc := fun v B => v = none ∧ ChA B12 B ∧ MW B (wS 14)) dX9_init_205 lk_X9_67 ci_X9_addChange rfl (Nat.le_of_ble_eq_true rfl) rfl rfl (Nat.le_of_ble_eq_true rfl) rfl (Nat.le_refl _) ⟨Nat.le_refl _, Nat.le_refl _⟩ (i9_X (k := 13) (by decide) (by decide +kernel) (by decide +kernel) (by decide +kernel) (by decide +kernel) (by decide +kernel) hSB hw fun B c h => ⟨rfl, c, h⟩) (fun v B13 h => ?_)
  obtain ⟨rfl, cK, hw⟩ := h
  replace cA := cA.tr cK
  replace hSB := cA.sh hS
  clear cK
  refine wg_aload_n dX9_init_208 rfl (by decide) ?_
  refine wg_iconst dX9_init_209 ⟨by decide, by decide⟩ ?_
  refine wg_iconst dX9_init_210 ⟨by decide, by decide⟩ ?_
  refine wg_iconst dX9_init_211 ⟨by decide, by decide⟩ ?_
  refine wg_iconst dX9_init_212 ⟨by decide, by decide⟩ ?_
  refine wg_callV (I' := mX9_addChange) (ci := 9) (np := 4) (d' := d) (q := 96) (as := [vI 2, vI 0, vI 2, vI 1]) (st := []) (Qc := fun v B => v = none ∧ ChA B13 B ∧ MW B (wS 15)) dX9_init_213 lk_X9_67 ci_X9_addChange rfl (Nat.le_of_ble_eq_true rfl) rfl rfl (Nat.le_of_ble_eq_true rfl) rfl (Nat.le_refl _) ⟨Nat.le_refl _, Nat.le_refl _⟩ (i9_X (k := 14) (by decide) (by decide +kernel) (by decide +kernel) (by decide +kernel) (by decide +kernel) (by decide +kernel) hSB hw fun B c h => ⟨rfl, c, h⟩) (fun v B14 h => ?_)
  obtain ⟨rfl, cK, hw⟩ := h
  replace cA := cA.tr cK
  replace hSB := cA.sh hS
  clear cK
  refine wg_aload_n dX9_init_216 rfl (by decide) ?_
  refine wg_callV (I' := mX9_begin) (ci := 9) (np := 0) (d' := d) (q := 96) (as := []) (st := []) (Qc := fun v B => v = none ∧ Ch (fun q => q = 96 ∨ q = 97) B14 B ∧ (∀ j, j ≠ 1 → j ≠ 2 → gI B 96 j = gI B14 96 j) ∧ ∀ f g, MF B (wS 15) s00 0 f 0 g) dX9_init_217 lk_X9_71 ci_X9_begin rfl (Nat.le_of_ble_eq_true rfl) rfl rfl (Nat.le_of_ble_eq_true rfl) rfl (Nat.le_refl _) ⟨Nat.le_refl _, Nat.le_refl _⟩ (ok9_begin hSB hw fun B c e h => ⟨rfl, c, e, h⟩) (fun v B h => ?_)
  obtain ⟨rfl, cB, eB, hB⟩ := h
  refine wp_vret rfl dX9_init_220 ⟨Nat.le_refl _, Nat.le_refl _⟩ (kk B ?_ (fun q j hq => ⟨?_, ?_⟩) fun f g => ⟨hB f g, ?_, Nat.zero_le _, fun i hi => absurd hi (Nat.not_lt_zero i)⟩)
  · rw [cB.1, cA.1, h110]
  · rw [cB.2.2 q j (by omega), cA.2.2 q j (by omega)]; exact (hlo q j hq).1
  · show B.2.2 q j = M.2.2 q j
    rw [cB.2.1, cA.2.1]
    exact (hlo q j hq).2
  · show gI B 96 4 = ((0 : Nat) : Int)
    rw [eB 4 (by decide) (by decide), cA.2.2 96 4 (by omega)]
    exact h96 4
