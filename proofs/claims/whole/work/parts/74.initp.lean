/-! ===== the constructor of a pile ===== -/
theorem gI_N {M : MM} {q j : Nat} : gI (stN M) q j = if q = M.1 + 1 then 0 else gI M q j := rfl
theorem gR_N {M : MM} {q j : Nat} : gR (stN M) q j = if q = M.1 + 1 then 0 else gR M q j := rfl
theorem gR_mk5 {M : MM} {p q j : Nat} (hM : M.1 = p) (h : q < p) : gR (mk5 p M) q j = gR M q j := by
  unfold mk5
  rw [gR_ne _ _ (by omega), gR_N, if_neg (by show ¬ q = M.1 + 2 + 1; omega), gR_ne _ _ (by omega), gR_N, if_neg (by show ¬ q = M.1 + 1 + 1; omega), gR_ne _ _ (by omega), gR_N, if_neg (by show ¬ q = M.1 + 1; omega)]
  rfl
def mk2 (p : Nat) (M : MM) : Nat → MM
  | 0 => stR (stN (stI M p 1 0)) p 0 (p + 1)
  | i + 1 => stR (mk5 (p + 2 + 4 * i) (stN (mk2 p M i))) (p + 1) i (p + 2 + 4 * i)
theorem mk2_1 {p : Nat} {M : MM} (hM : M.1 = p) : ∀ i, (mk2 p M i).1 = p + 1 + 4 * i
  | 0 => by show M.1 + 1 = _; omega
  | i + 1 => by
    have := mk2_1 hM i
    show (mk2 p M i).1 + 1 + 1 + 1 + 1 = _
    omega
theorem mk2_s {p : Nat} {M : MM} (hM : M.1 = p) : ∀ i, gR (mk2 p M i) p 0 = p + 1
  | 0 => gR_same _ _ _ _
  | i + 1 => by
    have h1 := mk2_1 hM i
    show gR (stR (mk5 (p + 2 + 4 * i) (stN (mk2 p M i))) (p + 1) i (p + 2 + 4 * i)) p 0 = p + 1
    rw [gR_ne _ _ (by omega), gR_mk5 (by show (mk2 p M i).1 + 1 = _; omega) (by omega), gR_N, if_neg (by omega)]
    exact mk2_s hM i
theorem k2s {p i : Nat} (h : kd p = 2) (hi : i < ln (p + 1)) : kd (p + 2 + 4 * i) = 5 := by
  rcases k2_at h with rfl | rfl
  · have hi : i < 8 := hi
    exact (by decide +kernel : ∀ i, i < 8 → kd (43 + 2 + 4 * i) = 5) i hi
  · have hi : i < 2 := hi
    exact (by decide +kernel : ∀ i, i < 2 → kd (77 + 2 + 4 * i) = 5) i hi
set_option maxRecDepth 100000 in
theorem ok2_init {G : GG} {d : Nat} {M : MM} {Q : Option AV → MM → Prop} {p r : Nat} (hM : M.1 = p) (hk : kd p = 2) (hr : ln (p + 1) = r) (h2 : 2 ≤ r) (hd : 2 ≤ d) (kk : Q none (mk2 p M r)) : Ok G mX2_init d (4 * r + 1) (17 * r) [vR p, vI r] M Q := by
  obtain ⟨d, rfl⟩ : ∃ e, d = e + 1 := ⟨d - 1, by omega⟩
  have hl := ln_pile hk
  refine Ok_of rfl (Nat.le_of_ble_eq_true rfl) rfl ?_
  refine wg_aload_n dX2_init_0 rfl (kn2 hk) ?_
  refine wg_objInit dX2_init_1 lk_X2_1 oi_i oi_c (by rw [hk]; decide) (Nat.le_of_ble_eq_true rfl) (by omega) ?_
  refine wg_aload_n dX2_init_4 rfl (kn2 hk) ?_
  refine wg_iconst dX2_init_5 ⟨by decide, by decide⟩ ?_
  refine wg_putI dX2_init_6 (fl_X2_7 rfl) rfl rfl hk ?_
  refine wg_aload_n dX2_init_9 rfl (kn2 hk) ?_
  refine wg_iconst dX2_init_10 ⟨by decide, by decide⟩ ?_
  refine wg_iload_n dX2_init_11 rfl ?_
  refine wg_mmax dX2_init_12 lk_X2_13 ma_max_s in_Math ma_max_c (Nat.le_of_ble_eq_true rfl) (Nat.le_add_left 1 d) ⟨Nat.zero_le _, Nat.zero_le _⟩ ?_
  rw [if_pos (show (1 : Int) < (r : Nat) by omega)]
  refine wg_newQ' (N := r) (q := p + 1) dX2_init_15 cl_X2_19 (by show M.1 + 1 = _; omega) (k2 hk) rfl hr ⟨by omega, by omega⟩ ?_
  refine wg_putFR dX2_init_18 (fl_X2_21 rfl) rfl rfl (fun v => rfl) (fun ad => by unfold cr; split <;> rfl) rfl rfl (fun r h => by cases h; rfl) hk (kl12 (k2 hk)) ?_
  refine wg_iconst dX2_init_21 ⟨by decide, by decide⟩ ?_
  refine wg_istore_n (L' := [some (vR p), some (vI r), some (vI ((0 : Nat) : Int))]) dX2_init_22 (Nat.le_of_ble_eq_true rfl) rfl ?_
  show Wp G mX2_init (d + 1) (4 * r + 1) (17 * r) 23 [some (vR p), some (vI r), some (vI ((0 : Nat) : Int))] [] (mk2 p M 0) (0 + 1) (0 + r) Q
  refine down (fun i => ∀ k n, k = 1 + 4 * i → n = r + 16 * i → Wp G mX2_init (d + 1) (4 * r + 1) (17 * r) 23 [some (vR p), some (vI r), some (vI (i : Int))] [] (mk2 p M i) k n Q) (n := r) ?_ ?_ 0 (Nat.zero_le _) _ _ (by omega) (by omega)
  · rintro k n rfl rfl
    refine wg_iload_n dX2_init_23 rfl ?_
    refine wg_aload_n dX2_init_24 rfl (kn2 hk) ?_
    refine wg_getRe dX2_init_25 (fl_X2_21 rfl) rfl hk (mk2_s hM r) ?_
    refine wg_alen dX2_init_28 (Or.inr (k2 hk)) ?_
    refine wg_icmp_ge dX2_init_29 rfl (fun _ => ?_) (fun h => absurd (by omega) h)
    exact wp_vret rfl dX2_init_51 ⟨by omega, by omega⟩ kk
  · rintro i hi ih k n rfl rfl
    have h1 := mk2_1 hM i
    have hs := mk2_s hM i
    have h5 : kd (p + 2 + 4 * i) = 5 := k2s hk (by omega)
    refine wg_iload_n dX2_init_23 rfl ?_
    refine wg_aload_n dX2_init_24 rfl (kn2 hk) ?_
    refine wg_getRe dX2_init_25 (fl_X2_21 rfl) rfl hk hs ?_
    refine wg_alen dX2_init_28 (Or.inr (k2 hk)) ?_
    refine wg_icmp_ge dX2_init_29 rfl (fun h => absurd h (by omega)) (fun _ => ?_)
    refine wg_aload_n dX2_init_32 rfl (kn2 hk) ?_
    refine wg_getRe dX2_init_33 (fl_X2_21 rfl) rfl hk hs ?_
    refine wg_iload_n dX2_init_36 rfl ?_
    refine wg_new' (q := p + 2 + 4 * i) dX2_init_37 (nw_X2_19 rfl) (by omega) h5 ⟨by omega, by omega⟩ ?_
    refine wg_dup dX2_init_40 rfl ?_
    refine wg_callIN (I' := mX5_init) (np := 0) (d' := d) (q := p + 2 + 4 * i) (as := []) (st := [vR (p + 2 + 4 * i), vI (i : Int), vR (p + 1)]) (Qc := fun v M' => v = none ∧ M' = mk5 (p + 2 + 4 * i) (stN (mk2 p M i))) dX2_init_41 lk_X2_25 ci_X5_init rfl rfl rfl (Nat.le_of_ble_eq_true rfl) (by rw [h5]; decide) (Nat.le_refl _) (mc' := 3) (ms' := 12) ⟨by omega, by omega⟩ (ok5_init (by show (mk2 p M i).1 + 1 = _; omega) h5 (by omega) ⟨rfl, rfl⟩) (fun v M' h => ?_)
    obtain ⟨rfl, rfl⟩ := h
    refine wg_aast dX2_init_44 (k2 hk) (by omega) (by omega) h5 ?_
    rw [Int.toNat_natCast]
    refine wg_iinc (L' := [some (vR p), some (vI r), some (vI ((i : Int) + 1))]) dX2_init_45 (Nat.le_of_ble_eq_true rfl) rfl rfl ⟨by omega, by omega⟩ ?_
    refine wg_goto dX2_init_48 rfl ?_
    exact ih _ _ (by omega) (by omega)
