/-! ===== Integer.bitCount ===== -/
theorem qbipush_16 : -128 ≤ ((16) : Int) ∧ ((16) : Int) < 128 := ⟨by decide, by decide⟩
theorem qbipush_63 : -128 ≤ ((63) : Int) ∧ ((63) : Int) < 128 := ⟨by decide, by decide⟩
set_option maxRecDepth 100000 in
theorem bJ6_bitCount_0f7a4_0 {G : GG} {d : Nat} {M : MM} {Q : Option AV → MM → Prop} (a0 : Int) (h :
R32 (a0 - (iandv (iushrv a0 1) 1431655765)) ∧
(R32 ((iandv (a0 - (iandv (iushrv a0 1) 1431655765)) 858993459) + (iandv (iushrv (a0 - (iandv (iushrv a0 1) 1431655765)) 2) 858993459)) ∧
(R32 (((iandv (a0 - (iandv (iushrv a0 1) 1431655765)) 858993459) + (iandv (iushrv (a0 - (iandv (iushrv a0 1) 1431655765)) 2) 858993459)) + (iushrv ((iandv (a0 - (iandv (iushrv a0 1) 1431655765)) 858993459) + (iandv (iushrv (a0 - (iandv (iushrv a0 1) 1431655765)) 2) 858993459)) 4)) ∧
(R32 ((iandv (((iandv (a0 - (iandv (iushrv a0 1) 1431655765)) 858993459) + (iandv (iushrv (a0 - (iandv (iushrv a0 1) 1431655765)) 2) 858993459)) + (iushrv ((iandv (a0 - (iandv (iushrv a0 1) 1431655765)) 858993459) + (iandv (iushrv (a0 - (iandv (iushrv a0 1) 1431655765)) 2) 858993459)) 4)) 252645135) + (iushrv (iandv (((iandv (a0 - (iandv (iushrv a0 1) 1431655765)) 858993459) + (iandv (iushrv (a0 - (iandv (iushrv a0 1) 1431655765)) 2) 858993459)) + (iushrv ((iandv (a0 - (iandv (iushrv a0 1) 1431655765)) 858993459) + (iandv (iushrv (a0 - (iandv (iushrv a0 1) 1431655765)) 2) 858993459)) 4)) 252645135) 8)) ∧
(R32 (((iandv (((iandv (a0 - (iandv (iushrv a0 1) 1431655765)) 858993459) + (iandv (iushrv (a0 - (iandv (iushrv a0 1) 1431655765)) 2) 858993459)) + (iushrv ((iandv (a0 - (iandv (iushrv a0 1) 1431655765)) 858993459) + (iandv (iushrv (a0 - (iandv (iushrv a0 1) 1431655765)) 2) 858993459)) 4)) 252645135) + (iushrv (iandv (((iandv (a0 - (iandv (iushrv a0 1) 1431655765)) 858993459) + (iandv (iushrv (a0 - (iandv (iushrv a0 1) 1431655765)) 2) 858993459)) + (iushrv ((iandv (a0 - (iandv (iushrv a0 1) 1431655765)) 858993459) + (iandv (iushrv (a0 - (iandv (iushrv a0 1) 1431655765)) 2) 858993459)) 4)) 252645135) 8)) + (iushrv ((iandv (((iandv (a0 - (iandv (iushrv a0 1) 1431655765)) 858993459) + (iandv (iushrv (a0 - (iandv (iushrv a0 1) 1431655765)) 2) 858993459)) + (iushrv ((iandv (a0 - (iandv (iushrv a0 1) 1431655765)) 858993459) + (iandv (iushrv (a0 - (iandv (iushrv a0 1) 1431655765)) 2) 858993459)) 4)) 252645135) + (iushrv (iandv (((iandv (a0 - (iandv (iushrv a0 1) 1431655765)) 858993459) + (iandv (iushrv (a0 - (iandv (iushrv a0 1) 1431655765)) 2) 858993459)) + (iushrv ((iandv (a0 - (iandv (iushrv a0 1) 1431655765)) 858993459) + (iandv (iushrv (a0 - (iandv (iushrv a0 1) 1431655765)) 2) 858993459)) 4)) 252645135) 8)) 16)) ∧
(Q (some (vI (iandv (((iandv (((iandv (a0 - (iandv (iushrv a0 1) 1431655765)) 858993459) + (iandv (iushrv (a0 - (iandv (iushrv a0 1) 1431655765)) 2) 858993459)) + (iushrv ((iandv (a0 - (iandv (iushrv a0 1) 1431655765)) 858993459) + (iandv (iushrv (a0 - (iandv (iushrv a0 1) 1431655765)) 2) 858993459)) 4)) 252645135) + (iushrv (iandv (((iandv (a0 - (iandv (iushrv a0 1) 1431655765)) 858993459) + (iandv (iushrv (a0 - (iandv (iushrv a0 1) 1431655765)) 2) 858993459)) + (iushrv ((iandv (a0 - (iandv (iushrv a0 1) 1431655765)) 858993459) + (iandv (iushrv (a0 - (iandv (iushrv a0 1) 1431655765)) 2) 858993459)) 4)) 252645135) 8)) + (iushrv ((iandv (((iandv (a0 - (iandv (iushrv a0 1) 1431655765)) 858993459) + (iandv (iushrv (a0 - (iandv (iushrv a0 1) 1431655765)) 2) 858993459)) + (iushrv ((iandv (a0 - (iandv (iushrv a0 1) 1431655765)) 858993459) + (iandv (iushrv (a0 - (iandv (iushrv a0 1) 1431655765)) 2) 858993459)) 4)) 252645135) + (iushrv (iandv (((iandv (a0 - (iandv (iushrv a0 1) 1431655765)) 858993459) + (iandv (iushrv (a0 - (iandv (iushrv a0 1) 1431655765)) 2) 858993459)) + (iushrv ((iandv (a0 - (iandv (iushrv a0 1) 1431655765)) 858993459) + (iandv (iushrv (a0 - (iandv (iushrv a0 1) 1431655765)) 2) 858993459)) 4)) 252645135) 8)) 16)) 63))) M)))))) :
  Wp G mJ6_bitCount_0f7a4 d 0 0 0 [some (vI a0)] [] M 0 0 Q := by
  refine wg_iload_n dJ6_bitCount_0f7a4_0 rfl ?_
  refine wg_iload_n dJ6_bitCount_0f7a4_1 rfl ?_
  refine wg_iconst dJ6_bitCount_0f7a4_2 qiconst_1 ?_
  refine wg_iushr dJ6_bitCount_0f7a4_3 ?_
  refine wg_ldc_w dJ6_bitCount_0f7a4_4 kc_J6_265 ⟨by decide, by decide⟩ ?_
  refine wg_iand dJ6_bitCount_0f7a4_7 ?_
  obtain ⟨o, h⟩ := h
  refine wg_isub dJ6_bitCount_0f7a4_8 o ?_
  refine wg_istore_n (L' := [some (vI (a0 - (iandv (iushrv a0 1) 1431655765)))]) dJ6_bitCount_0f7a4_9 (Nat.le_of_ble_eq_true rfl) rfl ?_
  refine wg_iload_n dJ6_bitCount_0f7a4_10 rfl ?_
  refine wg_ldc_w dJ6_bitCount_0f7a4_11 kc_J6_266 ⟨by decide, by decide⟩ ?_
  refine wg_iand dJ6_bitCount_0f7a4_14 ?_
  refine wg_iload_n dJ6_bitCount_0f7a4_15 rfl ?_
  refine wg_iconst dJ6_bitCount_0f7a4_16 qiconst_2 ?_
  refine wg_iushr dJ6_bitCount_0f7a4_17 ?_
  refine wg_ldc_w dJ6_bitCount_0f7a4_18 kc_J6_266 ⟨by decide, by decide⟩ ?_
  refine wg_iand dJ6_bitCount_0f7a4_21 ?_
  obtain ⟨o, h⟩ := h
  refine wg_iadd dJ6_bitCount_0f7a4_22 o ?_
  refine wg_istore_n (L' := [some (vI ((iandv (a0 - (iandv (iushrv a0 1) 1431655765)) 858993459) + (iandv (iushrv (a0 - (iandv (iushrv a0 1) 1431655765)) 2) 858993459)))]) dJ6_bitCount_0f7a4_23 (Nat.le_of_ble_eq_true rfl) rfl ?_
  refine wg_iload_n dJ6_bitCount_0f7a4_24 rfl ?_
  refine wg_iload_n dJ6_bitCount_0f7a4_25 rfl ?_
  refine wg_iconst dJ6_bitCount_0f7a4_26 qiconst_4 ?_
  refine wg_iushr dJ6_bitCount_0f7a4_27 ?_
  obtain ⟨o, h⟩ := h
  refine wg_iadd dJ6_bitCount_0f7a4_28 o ?_
  refine wg_ldc_w dJ6_bitCount_0f7a4_29 kc_J6_267 ⟨by decide, by decide⟩ ?_
  refine wg_iand dJ6_bitCount_0f7a4_32 ?_
  refine wg_istore_n (L' := [some (vI (iandv (((iandv (a0 - (iandv (iushrv a0 1) 1431655765)) 858993459) + (iandv (iushrv (a0 - (iandv (iushrv a0 1) 1431655765)) 2) 858993459)) + (iushrv ((iandv (a0 - (iandv (iushrv a0 1) 1431655765)) 858993459) + (iandv (iushrv (a0 - (iandv (iushrv a0 1) 1431655765)) 2) 858993459)) 4)) 252645135))]) dJ6_bitCount_0f7a4_33 (Nat.le_of_ble_eq_true rfl) rfl ?_
  refine wg_iload_n dJ6_bitCount_0f7a4_34 rfl ?_
  refine wg_iload_n dJ6_bitCount_0f7a4_35 rfl ?_
  refine wg_bipush dJ6_bitCount_0f7a4_36 qbipush_8 ?_
  refine wg_iushr dJ6_bitCount_0f7a4_38 ?_
  obtain ⟨o, h⟩ := h
  refine wg_iadd dJ6_bitCount_0f7a4_39 o ?_
  refine wg_istore_n (L' := [some (vI ((iandv (((iandv (a0 - (iandv (iushrv a0 1) 1431655765)) 858993459) + (iandv (iushrv (a0 - (iandv (iushrv a0 1) 1431655765)) 2) 858993459)) + (iushrv ((iandv (a0 - (iandv (iushrv a0 1) 1431655765)) 858993459) + (iandv (iushrv (a0 - (iandv (iushrv a0 1) 1431655765)) 2) 858993459)) 4)) 252645135) + (iushrv (iandv (((iandv (a0 - (iandv (iushrv a0 1) 1431655765)) 858993459) + (iandv (iushrv (a0 - (iandv (iushrv a0 1) 1431655765)) 2) 858993459)) + (iushrv ((iandv (a0 - (iandv (iushrv a0 1) 1431655765)) 858993459) + (iandv (iushrv (a0 - (iandv (iushrv a0 1) 1431655765)) 2) 858993459)) 4)) 252645135) 8)))]) dJ6_bitCount_0f7a4_40 (Nat.le_of_ble_eq_true rfl) rfl ?_
  refine wg_iload_n dJ6_bitCount_0f7a4_41 rfl ?_
  refine wg_iload_n dJ6_bitCount_0f7a4_42 rfl ?_
  refine wg_bipush dJ6_bitCount_0f7a4_43 qbipush_16 ?_
  refine wg_iushr dJ6_bitCount_0f7a4_45 ?_
  obtain ⟨o, h⟩ := h
  refine wg_iadd dJ6_bitCount_0f7a4_46 o ?_
  refine wg_istore_n (L' := [some (vI (((iandv (((iandv (a0 - (iandv (iushrv a0 1) 1431655765)) 858993459) + (iandv (iushrv (a0 - (iandv (iushrv a0 1) 1431655765)) 2) 858993459)) + (iushrv ((iandv (a0 - (iandv (iushrv a0 1) 1431655765)) 858993459) + (iandv (iushrv (a0 - (iandv (iushrv a0 1) 1431655765)) 2) 858993459)) 4)) 252645135) + (iushrv (iandv (((iandv (a0 - (iandv (iushrv a0 1) 1431655765)) 858993459) + (iandv (iushrv (a0 - (iandv (iushrv a0 1) 1431655765)) 2) 858993459)) + (iushrv ((iandv (a0 - (iandv (iushrv a0 1) 1431655765)) 858993459) + (iandv (iushrv (a0 - (iandv (iushrv a0 1) 1431655765)) 2) 858993459)) 4)) 252645135) 8)) + (iushrv ((iandv (((iandv (a0 - (iandv (iushrv a0 1) 1431655765)) 858993459) + (iandv (iushrv (a0 - (iandv (iushrv a0 1) 1431655765)) 2) 858993459)) + (iushrv ((iandv (a0 - (iandv (iushrv a0 1) 1431655765)) 858993459) + (iandv (iushrv (a0 - (iandv (iushrv a0 1) 1431655765)) 2) 858993459)) 4)) 252645135) + (iushrv (iandv (((iandv (a0 - (iandv (iushrv a0 1) 1431655765)) 858993459) + (iandv (iushrv (a0 - (iandv (iushrv a0 1) 1431655765)) 2) 858993459)) + (iushrv ((iandv (a0 - (iandv (iushrv a0 1) 1431655765)) 858993459) + (iandv (iushrv (a0 - (iandv (iushrv a0 1) 1431655765)) 2) 858993459)) 4)) 252645135) 8)) 16)))]) dJ6_bitCount_0f7a4_47 (Nat.le_of_ble_eq_true rfl) rfl ?_
  refine wg_iload_n dJ6_bitCount_0f7a4_48 rfl ?_
  refine wg_bipush dJ6_bitCount_0f7a4_49 qbipush_63 ?_
  refine wg_iand dJ6_bitCount_0f7a4_51 ?_
  exact wp_iret rfl dJ6_bitCount_0f7a4_52 ⟨Nat.le_refl _, Nat.le_refl _⟩ h
def bc1 (a : Int) : Int := a - (iandv (iushrv a 1) 1431655765)
def bc2 (a : Int) : Int := (iandv (bc1 a) 858993459) + (iandv (iushrv (bc1 a) 2) 858993459)
def bc3 (a : Int) : Int := (bc2 a) + (iushrv (bc2 a) 4)
def bc3a (a : Int) : Int := iandv (bc3 a) 252645135
def bc4 (a : Int) : Int := (bc3a a) + (iushrv (bc3a a) 8)
def bc5 (a : Int) : Int := (bc4 a) + (iushrv (bc4 a) 16)
theorem bc_all : ∀ a : Nat, a < 1024 → R32 (bc1 a) ∧ R32 (bc2 a) ∧ R32 (bc3 a) ∧ R32 (bc4 a) ∧ R32 (bc5 a) ∧ iandv (bc5 a) 63 = (pc a 10 : Nat) := by decide +kernel
theorem ok_bitCount {G : GG} {M : MM} {d : Nat} {Q : Option AV → MM → Prop} {a : Nat} (ha : a < 1024) (kk : Q (some (vI (pc a 10 : Nat))) M) : Ok G mJ6_bitCount_0f7a4 d 0 0 [vI a] M Q := by
  refine Ok_of rfl (Nat.le_of_ble_eq_true rfl) rfl ?_
  obtain ⟨h1, h2, h3, h4, h5, h6⟩ := bc_all a ha
  refine bJ6_bitCount_0f7a4_0 _ ⟨h1, h2, h3, h4, h5, ?_⟩
  show Q (some (vI (iandv (bc5 a) 63))) M
  rw [h6]
  exact kk
