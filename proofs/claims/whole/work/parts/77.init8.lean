/-! ===== the constructor of RibbonOfLacks, whole ===== -/
theorem shx_0 : ShX mZ12 := by
  have d5 : ∀ p, p < 111 → kd p = 5 → ∀ j, j < 4 → 1 ≤ j → gR mZ12 p j = p + j := by decide +kernel
  have d7 : ∀ p, p < 111 → kd p = 7 → ∀ j, j < 19 → 8 ≤ j → gR mZ12 p j = p + (j - 7) := by decide +kernel
  have d2 : ∀ p, p < 111 → kd p = 2 → gR mZ12 p 0 = p + 1 := by decide +kernel
  have d12 : ∀ p, p < 111 → kd p = 12 → ∀ i, i < ln p → kd (gR mZ12 p i) = 5 := by decide +kernel
  have lt : ∀ {p c : Nat}, kd p = c → c ≤ 12 → p < 111 := fun h hc => by have := (kd_in (p := _) (by rw [h]; exact hc)).2; omega
  have d30 : ∀ j, j < 5 → 1 ≤ j → gR mZ12 30 j = 30 + j := by decide +kernel
  have d87 : ∀ j, j < 11 → 4 ≤ j → gR mZ12 87 j = [30, 88, 89, 90, 91, 92, 93].getD (j - 4) 0 := by decide +kernel
  refine ⟨by decide +kernel, by decide +kernel, fun j h1 h2 => d30 j h2 h1, fun j h1 h2 => d87 j h2 h1, fun p hp j h1 h2 => d5 p (lt hp (by decide)) hp j h2 h1, fun p hp j h1 h2 => d7 p (lt hp (by decide)) hp j h2 h1, fun p hp => d2 p (lt hp (by decide)) hp, by decide +kernel, by decide +kernel, fun p i hp hi => d12 p (lt hp (by decide)) hp i hi⟩
theorem pvr_43 : PVr mZ12 43 := by
  have a : ∀ i, i < 8 → 43 + 2 ≤ gR mZ12 (43 + 1) i ∧ gR mZ12 (43 + 1) i + 4 ≤ 43 + 2 + 4 * 8 := by decide +kernel
  have b : ∀ i, i < 8 → ∀ j, j < 8 → i ≠ j → gR mZ12 (43 + 1) i ≠ gR mZ12 (43 + 1) j := by decide +kernel
  exact ⟨a, fun i j hi hj h => b i hi j hj h⟩
theorem pvr_77 : PVr mZ12 77 := by
  have a : ∀ i, i < 2 → 77 + 2 ≤ gR mZ12 (77 + 1) i ∧ gR mZ12 (77 + 1) i + 4 ≤ 77 + 2 + 4 * 2 := by decide +kernel
  have b : ∀ i, i < 2 → ∀ j, j < 2 → i ≠ j → gR mZ12 (77 + 1) i ≠ gR mZ12 (77 + 1) j := by decide +kernel
  exact ⟨a, fun i j hi hj h => b i hi j hj h⟩
theorem ne_0 : gR mZ12 1 2 ≠ gR mZ12 1 3 := by decide +kernel
theorem tx_0 : gI mZ12 2 1 = 0 := by decide +kernel
/-- the State of both sides at first: the first text's world, an empty text -/
def aZ (f g : Nat → WT) : AbS := (wS 15, s00, 0, f, 0, g, 0, t00)
theorem gd_0 {f g : Nat → WT} : GdS (aZ f g) := ⟨⟨wS_ok 15 (Nat.le_refl _), s00_SI, Nat.zero_le _⟩, (by show 1 ≤ wS 15 0 3; rw [wS_n.2]; decide), fun i hi => absurd hi (Nat.not_lt_zero i), fun i hi => absurd hi (Nat.not_lt_zero i)⟩
theorem PVr.of {A B : MM} {p : Nat} (h : PVr A p) (e : ∀ i, gR B (p + 1) i = gR A (p + 1) i) : PVr B p := ⟨fun i hi => by rw [e]; exact h.1 i hi, fun i j h1 h2 h3 => by rw [e, e]; exact h.2 i j h1 h2 h3⟩
set_option maxRecDepth 100000 in
theorem ok8_init {G : GG} {d : Nat} {Q : Option AV → MM → Prop} (hd : 7 ≤ d) (kk : ∀ M', M'.1 = 95 → (∀ f g, IxS M' (aZ f g)) → Q none M') : Ok G mX8_init d 94 6817 [vR 1] mZ1 Q := by
  obtain ⟨d, rfl⟩ : ∃ e, d = e + 1 := ⟨d - 1, by omega⟩
  refine Ok_of rfl (Nat.le_of_ble_eq_true rfl) rfl ?_
  refine ok8_made (by omega) ?_
  have txt : ∀ i, i ≤ 81 → ∀ M', Ch (fun q => q = 2 ∨ q = 3) mZ12 M' → TXv M' i t00 → Wp G mX8_init (d + 1) 94 6817 138 [some (vR 1), some (vI (i : Int))] [] M' 94 6817 Q := by
    refine down _ (n := 81) ?_ ?_
    · intro M' c hT
      have hS := shx_0.ch c
      refine wg_iload_n dX8_init_138 rfl ?_
      refine wg_ldcS dX8_init_139 rfl ?_
      refine wg_callVs (I' := mJ0_length_8abf5) (np := 0) (d' := d) (as := []) (st := [vI ((81 : Nat) : Int)]) (Qc := fun v M2 => v = some (vI 81) ∧ M' = M2) dX8_init_141 lk_X8_82 ci_J0_length_8abf5 rfl rfl rfl (Nat.le_of_ble_eq_true rfl) (Nat.le_refl _) ⟨Nat.le_refl _, Nat.le_refl _⟩ (okJ_length (by omega) ⟨rfl, rfl⟩) (fun v M2 h => ?_)
      obtain ⟨rfl, rfl⟩ := h
      refine wg_icmp_ge dX8_init_144 rfl (fun _ => ?_) (fun h => absurd (by decide) h)
      refine wg_aload_n dX8_init_167 rfl (by decide) ?_
      have gr : ∀ q j, gR M' q j = gR mZ12 q j := fun q j => by unfold gR; rw [c.2.1]
      refine wg_callV (I' := mX8_layTheText) (ci := 8) (np := 0) (d' := d) (q := 1) (as := []) (st := []) (Qc := fun v M3 => v = some (vI 1) ∧ (∀ f g, XF M3 (wS 15) s00 0 f 0 g) ∧ M3.1 = 95 ∧ TXv M3 81 t00 ∧ gR M3 1 2 ≠ gR M3 1 3) dX8_init_168 lk_X8_96 ci_X8_layTheText rfl (Nat.le_of_ble_eq_true rfl) rfl rfl (Nat.le_of_ble_eq_true rfl) rfl (Nat.le_refl _) ⟨Nat.le_refl _, Nat.le_refl _⟩
        (ok8_layTheText (by omega) hS hT (by rw [gr, gr]; exact ne_0) (pvr_43.of fun i => gr _ _) (pvr_77.of fun i => gr _ _) (fun h => absurd lays_0 h) (fun _ M3 hX fr hT3 hne => ⟨rfl, by rw [rdA_0] at hX; exact hX, by rw [fr.1, c.1]; exact mZ12_1, hT3, hne⟩)) (fun v M3 h => ?_)
      obtain ⟨rfl, hX, h95, hT3, hne⟩ := h
      have hS3 := (hX (fun _ => s00) (fun _ => s00)).1.1
      refine wg_pop dX8_init_171 rfl ?_
      refine wg_aload_n dX8_init_172 rfl (by decide) ?_
      refine wg_getRe dX8_init_173 (fl_X8_10 rfl) rfl rfl (x1 hS3 0 (r := 2) (by decide) (by decide) (by decide) rfl) ?_
      refine wg_callV (I' := mX1_clear) (ci := 1) (np := 0) (d' := d) (q := 2) (as := []) (st := []) (Qc := fun v M4 => v = none ∧ M4 = stI M3 2 1 0) dX8_init_176 lk_X8_100 ci_X1_clear rfl (Nat.le_of_ble_eq_true rfl) rfl rfl (Nat.le_of_ble_eq_true rfl) rfl (Nat.le_refl _) ⟨Nat.le_refl _, Nat.le_refl _⟩ (ok_clear1 hS3 ⟨rfl, rfl⟩) (fun v M4 h => ?_)
      obtain ⟨rfl, rfl⟩ := h
      refine wp_vret rfl dX8_init_179 ⟨Nat.le_refl _, Nat.le_refl _⟩ (kk _ h95 fun f g => ?_)
      obtain ⟨⟨hS', hw, hTB, hV⟩, hP1, hP2⟩ := hX f g
      have k1 := k7_at (xlaid hS')
      have ln43 : ln (43 + 1) = 8 := rfl
      have ln77 : ln (77 + 1) = 2 := rfl
      have o : ∀ q j, q ≠ 2 → gI (stI M3 2 1 0) q j = gI M3 q j := fun q j hq => gI_ne _ _ fun z => hq z.1
      refine ⟨⟨⟨hS'.of rfl, ?_, hTB.of fun q hq j => o q j (by unfold Ptb at hq; omega), hV.eq fun r j hr => o r j (by unfold Pst at hr; omega)⟩, hP1.eq rfl (fun i => rfl) fun q j hq => o q j (by unfold Ppi at hq; omega), hP2.eq rfl (fun i => rfl) fun q j hq => o q j (by unfold Ppi at hq; omega)⟩, ⟨gI_same _ _ _ _, Nat.zero_le _, fun i hi => absurd hi (Nat.not_lt_zero i)⟩, hne⟩
      show CW (stI M3 2 1 0) (gR M3 1 2) (wS 15)
      exact hw.of fun q hq j => o q j (by unfold Pwo at hq; omega)
    · intro i hi ih M' c hT
      have hS := shx_0.ch c
      obtain ⟨b1, b2, b3⟩ := t00_b i hi
      refine wg_iload_n dX8_init_138 rfl ?_
      refine wg_ldcS dX8_init_139 rfl ?_
      refine wg_callVs (I' := mJ0_length_8abf5) (np := 0) (d' := d) (as := []) (st := [vI (i : Int)]) (Qc := fun v M2 => v = some (vI 81) ∧ M' = M2) dX8_init_141 lk_X8_82 ci_J0_length_8abf5 rfl rfl rfl (Nat.le_of_ble_eq_true rfl) (Nat.le_refl _) ⟨Nat.le_refl _, Nat.le_refl _⟩ (okJ_length (by omega) ⟨rfl, rfl⟩) (fun v M2 h => ?_)
      obtain ⟨rfl, rfl⟩ := h
      refine wg_icmp_ge dX8_init_144 rfl (fun h => absurd h (by omega)) (fun _ => ?_)
      refine wg_aload_n dX8_init_147 rfl (by decide) ?_
      refine wg_getRe dX8_init_148 (fl_X8_10 rfl) rfl rfl (x1 hS 0 (r := 2) (by decide) (by decide) (by decide) rfl) ?_
      refine wg_ldcS dX8_init_151 rfl ?_
      refine wg_iload_n dX8_init_153 rfl ?_
      refine wg_callVs (I' := mJ0_charAt_5068e) (np := 1) (d' := d) (as := [vI (i : Int)]) (st := [vR 2]) (Qc := fun v M2 => v = some (vI (t00 i)) ∧ M' = M2) dX8_init_154 lk_X8_88 ci_J0_charAt_5068e rfl rfl rfl (Nat.le_of_ble_eq_true rfl) (Nat.le_refl _) ⟨Nat.le_refl _, Nat.le_refl _⟩ (okJ_charAt (by omega) hi ⟨rfl, rfl⟩) (fun v M2 h => ?_)
      obtain ⟨rfl, rfl⟩ := h
      refine wg_callV (I' := mX1_append) (ci := 1) (np := 1) (d' := d) (q := 2) (as := [vI (t00 i)]) (st := []) (Qc := fun v M2 => v = some (vI 1) ∧ M2 = stI (stI M' 3 i (t00 i)) 2 1 ((i + 1 : Nat) : Int)) dX8_init_157 lk_X8_92 ci_X1_append rfl (Nat.le_of_ble_eq_true rfl) rfl rfl (Nat.le_of_ble_eq_true rfl) rfl (Nat.le_refl _) ⟨Nat.le_refl _, Nat.le_refl _⟩ (ok_append hS hT.1 hT.2.1 (fun h => absurd h (by omega)) (fun _ => ⟨rfl, rfl⟩)) (fun v M2 h => ?_)
      obtain ⟨rfl, rfl⟩ := h
      refine wg_pop dX8_init_160 rfl ?_
      refine wg_iinc (L' := [some (vR 1), some (vI ((i : Int) + 1))]) dX8_init_161 (Nat.le_of_ble_eq_true rfl) rfl rfl ⟨by omega, by omega⟩ ?_
      refine wg_goto dX8_init_164 rfl ?_
      refine ih _ ((c.st (Or.inr rfl)).st (Or.inl rfl)) ⟨gI_same _ _ _ _, by omega, fun j hj => ?_⟩
      rw [gI_ne _ _ (by omega), gI_st]
      by_cases e : j = i
      · rw [if_pos ⟨rfl, e⟩, e]
      · rw [if_neg (fun z => e z.2)]; exact hT.2.2 j (by omega)
  exact txt 0 (Nat.zero_le _) mZ12 Ch.rf ⟨tx_0, Nat.zero_le _, fun i hi => absurd hi (Nat.not_lt_zero i)⟩
