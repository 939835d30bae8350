/-! ===== length and charAt of the one String constant ===== -/
def t00 (i : Nat) : Int := (txB.getD i 0).toInt
theorem t00_b : ∀ i : Nat, i < 81 → iandv (t00 i) 255 = t00 i ∧ 32 ≤ t00 i ∧ t00 i ≤ 126 := by decide +kernel
theorem qsi_255 : -32768 ≤ ((255) : Int) ∧ ((255) : Int) < 32768 := ⟨by decide, by decide⟩
section STRM
variable {G : GG} {M : MM} {d : Nat} {Q : Option AV → MM → Prop}
theorem okJ_coder (kk : Q (some (vI 0)) M) : Ok G mJ0_coder_7d493 d 0 0 [vR 777] M Q := by
  refine Ok_of rfl (Nat.le_of_ble_eq_true rfl) rfl ?_
  refine wg_gsC dJ0_coder_7d493_0 fl_J0_38 ?_
  refine wg_if_eq dJ0_coder_7d493_3 rfl (fun h => absurd h (by decide)) (fun _ => ?_)
  refine wg_aload_n dJ0_coder_7d493_6 rfl (by decide) ?_
  refine wg_sCod dJ0_coder_7d493_7 fl_J0_15 ?_
  refine wg_goto dJ0_coder_7d493_10 rfl ?_
  exact wp_bret rfl dJ0_coder_7d493_14 ⟨Nat.le_refl _, Nat.le_refl _⟩ kk
theorem okJ_isLatin1 (kk : Q (some (vI 1)) M) : Ok G mJ0_isLatin1_aae02 d 0 0 [vR 777] M Q := by
  refine Ok_of rfl (Nat.le_of_ble_eq_true rfl) rfl ?_
  refine wg_gsC dJ0_isLatin1_aae02_0 fl_J0_38 ?_
  refine wg_if_eq dJ0_isLatin1_aae02_3 rfl (fun h => absurd h (by decide)) (fun _ => ?_)
  refine wg_aload_n dJ0_isLatin1_aae02_6 rfl (by decide) ?_
  refine wg_sCod dJ0_isLatin1_aae02_7 fl_J0_15 ?_
  refine wg_if_ne dJ0_isLatin1_aae02_10 rfl (fun h => absurd rfl h) (fun _ => ?_)
  refine wg_iconst dJ0_isLatin1_aae02_13 qiconst_1 ?_
  refine wg_goto dJ0_isLatin1_aae02_14 rfl ?_
  exact wp_zret rfl dJ0_isLatin1_aae02_18 ⟨Nat.le_refl _, Nat.le_refl _⟩ (Or.inr rfl) kk
theorem okJ_length (hd : 1 ≤ d) (kk : Q (some (vI 81)) M) : Ok G mJ0_length_8abf5 d 0 0 [vR 777] M Q := by
  obtain ⟨d, rfl⟩ : ∃ e, d = e + 1 := ⟨d - 1, by omega⟩
  refine Ok_of rfl (Nat.le_of_ble_eq_true rfl) rfl ?_
  refine wg_aload_n dJ0_length_8abf5_0 rfl (by decide) ?_
  refine wg_sVal dJ0_length_8abf5_1 fl_J0_9 ?_
  refine wg_sLen dJ0_length_8abf5_4 ?_
  refine wg_aload_n dJ0_length_8abf5_5 rfl (by decide) ?_
  refine wg_callVs (I' := mJ0_coder_7d493) (np := 0) (d' := d) (as := []) (st := [vI 81]) (Qc := fun v M' => v = some (vI 0) ∧ M = M') dJ0_length_8abf5_6 lk_J0_335 ci_J0_coder_7d493 rfl rfl rfl (Nat.le_of_ble_eq_true rfl) (Nat.le_refl _) ⟨Nat.le_refl _, Nat.le_refl _⟩ (okJ_coder ⟨rfl, rfl⟩) (fun v M' h => ?_)
  obtain ⟨rfl, rfl⟩ := h
  refine wg_ishr dJ0_length_8abf5_9 ?_
  have e : ishrv 81 0 = 81 := by decide +kernel
  rw [e]
  exact wp_iret rfl dJ0_length_8abf5_10 ⟨Nat.le_refl _, Nat.le_refl _⟩ kk
theorem okJ_check3 {i n : Int} {q : Nat} (h0 : 0 ≤ i) (h1 : i < n) (kk : Q (some (vI i)) M) : Ok G mJ3_checkIndex_8e157 d 0 0 [vI i, vI n, vR q] M Q := by
  refine Ok_of rfl (Nat.le_of_ble_eq_true rfl) rfl ?_
  refine wg_iload_n dJ3_checkIndex_8e157_0 rfl ?_
  refine wg_if_lt dJ3_checkIndex_8e157_1 rfl (fun h => absurd h (by omega)) (fun _ => ?_)
  refine wg_iload_n dJ3_checkIndex_8e157_4 rfl ?_
  refine wg_iload_n dJ3_checkIndex_8e157_5 rfl ?_
  refine wg_icmp_lt dJ3_checkIndex_8e157_6 rfl (fun _ => ?_) (fun h => absurd h1 h)
  refine wg_iload_n dJ3_checkIndex_8e157_16 rfl ?_
  exact wp_iret rfl dJ3_checkIndex_8e157_17 ⟨Nat.le_refl _, Nat.le_refl _⟩ kk
theorem okJ_check0 {i n : Int} (hd : 1 ≤ d) (h0 : 0 ≤ i) (h1 : i < n) (kk : Q none M) : Ok G mJ0_checkIndex_df160 d 0 0 [vI i, vI n] M Q := by
  obtain ⟨d, rfl⟩ : ∃ e, d = e + 1 := ⟨d - 1, by omega⟩
  refine Ok_of rfl (Nat.le_of_ble_eq_true rfl) rfl ?_
  refine wg_iload_n dJ0_checkIndex_df160_0 rfl ?_
  refine wg_iload_n dJ0_checkIndex_df160_1 rfl ?_
  refine wg_gsF dJ0_checkIndex_df160_2 fl_J0_1053 (fun q _ => ?_)
  refine wg_callS (I' := mJ3_checkIndex_8e157) (np := 3) (d' := d) (as := [vI i, vI n, vR q]) (st := []) (Qc := fun v M' => v = some (vI i) ∧ M = M') dJ0_checkIndex_df160_5 lk_J0_1059 ci_J3_checkIndex_8e157 rfl rfl (Nat.le_of_ble_eq_true rfl) (Nat.le_refl _) ⟨Nat.le_refl _, Nat.le_refl _⟩ (okJ_check3 h0 h1 ⟨rfl, rfl⟩) (fun v M' h => ?_)
  obtain ⟨rfl, rfl⟩ := h
  refine wg_pop dJ0_checkIndex_df160_8 rfl ?_
  exact wp_vret rfl dJ0_checkIndex_df160_9 ⟨Nat.le_refl _, Nat.le_refl _⟩ kk
theorem okJ_charAt1 {i : Nat} (hd : 2 ≤ d) (hi : i < 81) (kk : Q (some (vI (t00 i))) M) : Ok G mJ1_charAt_3b067 d 0 0 [vR 779, vI i] M Q := by
  obtain ⟨d, rfl⟩ : ∃ e, d = e + 1 := ⟨d - 1, by omega⟩
  refine Ok_of rfl (Nat.le_of_ble_eq_true rfl) rfl ?_
  refine wg_iload_n dJ1_charAt_3b067_0 rfl ?_
  refine wg_aload_n dJ1_charAt_3b067_1 rfl (by decide) ?_
  refine wg_sLen dJ1_charAt_3b067_2 ?_
  refine wg_callS (I' := mJ0_checkIndex_df160) (np := 2) (d' := d) (as := [vI i, vI 81]) (st := []) (Qc := fun v M' => v = none ∧ M = M') dJ1_charAt_3b067_3 lk_J1_9 ci_J0_checkIndex_df160 rfl rfl (Nat.le_of_ble_eq_true rfl) (Nat.le_refl _) ⟨Nat.le_refl _, Nat.le_refl _⟩ (okJ_check0 (by omega) (by omega) (by omega) ⟨rfl, rfl⟩) (fun v M' h => ?_)
  obtain ⟨rfl, rfl⟩ := h
  refine wg_aload_n dJ1_charAt_3b067_6 rfl (by decide) ?_
  refine wg_iload_n dJ1_charAt_3b067_7 rfl ?_
  refine wg_sByte dJ1_charAt_3b067_8 (by omega) (by omega) ?_
  refine wg_sipush dJ1_charAt_3b067_9 qsi_255 ?_
  refine wg_iand dJ1_charAt_3b067_12 ?_
  obtain ⟨b1, b2, b3⟩ := t00_b i hi
  have e : iandv (txB.getD (i : Int).toNat 0).toInt 255 = t00 i := by rw [Int.toNat_natCast]; exact b1
  rw [e]
  refine wg_i2c dJ1_charAt_3b067_13 (by omega) (by omega) ?_
  exact wp_cret rfl dJ1_charAt_3b067_14 ⟨Nat.le_refl _, Nat.le_refl _⟩ ⟨by omega, by omega⟩ kk
theorem okJ_charAt {i : Nat} (hd : 3 ≤ d) (hi : i < 81) (kk : Q (some (vI (t00 i))) M) : Ok G mJ0_charAt_5068e d 0 0 [vR 777, vI i] M Q := by
  obtain ⟨d, rfl⟩ : ∃ e, d = e + 1 := ⟨d - 1, by omega⟩
  refine Ok_of rfl (Nat.le_of_ble_eq_true rfl) rfl ?_
  refine wg_aload_n dJ0_charAt_5068e_0 rfl (by decide) ?_
  refine wg_callVs (I' := mJ0_isLatin1_aae02) (np := 0) (d' := d) (as := []) (st := []) (Qc := fun v M' => v = some (vI 1) ∧ M = M') dJ0_charAt_5068e_1 lk_J0_492 ci_J0_isLatin1_aae02 rfl rfl rfl (Nat.le_of_ble_eq_true rfl) (Nat.le_refl _) ⟨Nat.le_refl _, Nat.le_refl _⟩ (okJ_isLatin1 ⟨rfl, rfl⟩) (fun v M' h => ?_)
  obtain ⟨rfl, rfl⟩ := h
  refine wg_if_eq dJ0_charAt_5068e_4 rfl (fun h => absurd h (by decide)) (fun _ => ?_)
  refine wg_aload_n dJ0_charAt_5068e_7 rfl (by decide) ?_
  refine wg_sVal dJ0_charAt_5068e_8 fl_J0_9 ?_
  refine wg_iload_n dJ0_charAt_5068e_11 rfl ?_
  refine wg_callS (I' := mJ1_charAt_3b067) (np := 2) (d' := d) (as := [vR 779, vI i]) (st := []) (Qc := fun v M' => v = some (vI (t00 i)) ∧ M = M') dJ0_charAt_5068e_12 lk_J0_495 ci_J1_charAt_3b067 rfl rfl (Nat.le_of_ble_eq_true rfl) (Nat.le_refl _) ⟨Nat.le_refl _, Nat.le_refl _⟩ (okJ_charAt1 (by omega) hi ⟨rfl, rfl⟩) (fun v M' h => ?_)
  obtain ⟨rfl, rfl⟩ := h
  obtain ⟨b1, b2, b3⟩ := t00_b i hi
  exact wp_cret rfl dJ0_charAt_5068e_15 ⟨Nat.le_refl _, Nat.le_refl _⟩ ⟨by omega, by omega⟩ kk
end STRM
