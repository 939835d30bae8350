/-! ===== least, all, more: class and reference ===== -/
def aLeast (w s : WT) (b k : Int) : Int := if 0 ≤ b ∧ b < w 0 3 then (if 0 ≤ k ∧ k ≤ 1 then (match bst w (goneS s) (lsP w (goneS s) (w 7 b.toNat)) (2 ^ w 0 0) with
  | none => -4
  | some r => if k = 0 then ((r : Nat) : Int) else cst w (goneS s) r) else -1) else -1
def aAll (w s : WT) (b : Int) : Int := if -2 ≤ b ∧ b < w 0 3 then (match bst w (goneS s) (alP w (goneS s) ((lse s (w 0 3)).map (w 7))) (2 ^ w 0 0) with
  | none => -4
  | some u => if b = -2 then cst w (goneS s) u else if b = -1 then ((u : Nat) : Int) else (aof w (lse s (w 0 3)) u b.toNat : Nat)) else -1
def Pmr : Nat → Prop := fun q => 107 ≤ q ∧ q ≤ 109
theorem XIv.pl {A B : MM} {w s : WT} (h : XIv A w s) (c : Ch Ppl A B) : XIv B w s := by
  have hg : gR B 1 2 = gR A 1 2 := by unfold gR; rw [c.2.1]
  have hk := k7_at (xlaid h.1)
  refine ⟨h.1.ch c, ?_, h.2.2.1.of fun q hq j => c.2.2 q j (by unfold Ptb at hq; unfold Ppl; omega), ?_⟩
  · rw [hg]
    exact h.2.1.of fun q hq j => c.2.2 q j (by unfold Pwo at hq; unfold Ppl; omega)
  · obtain ⟨v1, v2⟩ := h.2.2.2
    exact ⟨fun b hb => ⟨(c.2.2 36 b (by unfold Ppl; omega)).trans (v1 b hb).1, (c.2.2 37 b (by unfold Ppl; omega)).trans (v1 b hb).2.1, (c.2.2 38 b (by unfold Ppl; omega)).trans (v1 b hb).2.2⟩, (c.2.2 35 0 (by unfold Ppl; omega)).trans v2⟩
theorem MIv.mr {A B : MM} {w s : WT} (h : MIv A w s) (c : Ch Pmr A B) : MIv B w s := by
  refine ⟨h.1.ch c, h.2.1.of fun q j hq => c.2.2 q j (by unfold Pmr; omega), ?_⟩
  have e : ∀ j, gI B 97 j = gI A 97 j := fun j => c.2.2 97 j (by unfold Pmr; omega)
  have := h.2.2
  unfold RV at this ⊢
  simp only [e]
  exact this
section QUERAL
variable {G : GG} {M : MM} {d : Nat} {Q : Option AV → MM → Prop} {w s : WT}
theorem ok8_least {b k : Int} (hd : 3 ≤ d) (hX : XIv M w s) (hP : PIv w s) (kk : ∀ M', Ch Ppl M M' → Q (some (vI (aLeast w s b k))) M') : Ok G mX8_least d 0 0 [vR 1, vI b, vI k] M Q := by
  obtain ⟨d, rfl⟩ : ∃ e, d = e + 1 := ⟨d - 1, by omega⟩
  refine Ok_of rfl (Nat.le_of_ble_eq_true rfl) rfl ?_
  unfold aLeast at kk
  have hk7 := xlaid hX.1
  refine bX8_least_0 _ _ hX.1 (ok8_isBeast hX (fun h => ⟨_, rfl, hX.1, fun z => absurd z (by decide), fun _ => ?_⟩) (fun h => ⟨_, rfl, hX.1, fun _ => ?_, fun z => absurd rfl z⟩))
  · obtain ⟨n, rfl⟩ := nat_of h.1
    rw [if_pos h] at kk
    rw [Int.toNat_natCast] at kk
    have hn : n < w 0 3 := by omega
    refine ⟨fun h1 => ?_, fun h1 => ⟨fun h2 => ?_, fun h2 => ?_⟩⟩
    · rw [if_neg (by omega)] at kk; exact kk M Ch.rf
    · rw [if_pos ⟨by omega, by omega⟩] at kk
      refine ok_pullOfBeast (by omega) hk7 hX.1 hX.2.1 hP.1 hn ⟨_, rfl, hX.1, ok_gone rfl hX.1 hX.2.2.2 hP.sb ⟨_, rfl, hX.1, ok_findLeast (by omega) hX.1 hX.2.2.1 hP.1 (goneS_lt' hP.2.1) (fun M' c e => ⟨_, rfl, hX.1.ch c, fun z => absurd rfl z, fun _ => ?_⟩) (fun M' r c e g0 g1 => ⟨_, rfl, hX.1.ch c, fun _ => ?_, fun z => absurd z (by decide)⟩)⟩⟩
      · rw [e] at kk
        exact kk M' (c.mono fun q hq => by unfold Ppl; omega)
      · rw [e] at kk
        rw [g0, g1]
        exact kk M' (c.mono fun q hq => by unfold Ppl; omega)
    · rw [if_neg (by omega)] at kk; exact kk M Ch.rf
  · rw [if_neg h] at kk; exact kk M Ch.rf
theorem ok9_least {b k : Int} (hd : 4 ≤ d) (hX : MIv M w s) (hP : PIv w s) (kk : Q (some (vI (aLeast w s b k))) M) : Ok G mX9_least d 0 0 [vR 96, vI b, vI k] M Q := by
  obtain ⟨d, rfl⟩ : ∃ e, d = e + 1 := ⟨d - 1, by omega⟩
  refine Ok_of rfl (Nat.le_of_ble_eq_true rfl) rfl ?_
  unfold aLeast at kk
  have h4 := hP.1.1.2.2.2.1
  refine bX9_least_0 _ _ hX.1 (ok9_isBeast (by omega) hX hP.1 (fun h => ⟨_, rfl, hX.1, fun z => absurd z (by decide), fun _ => ok_in ⟨_, rfl, hX.1, ?_⟩⟩) (fun h => ⟨_, rfl, hX.1, fun _ => by rwa [if_neg h] at kk, fun z => absurd rfl z⟩))
  obtain ⟨n, rfl⟩ := nat_of h.1
  rw [if_pos h] at kk
  rw [Int.toNat_natCast] at kk
  have hn : n < w 0 3 := by omega
  by_cases hk : 0 ≤ k ∧ k ≤ 1
  · rw [if_pos hk] at kk ⊢
    refine ⟨fun _ => ⟨⟨by omega, by omega⟩, ?_⟩, fun z => absurd z (by decide)⟩
    rw [Int.toNat_natCast, hX.2.1.2.2.2.1 n hn]
    refine ok9_leastIn (base := 0) (by omega) hX.1 hX.2.1 hP.1 hP.2.1 hX.2.2 (by decide) ⟨_, rfl, hX.1, ?_⟩
    cases hb : bst w (goneS s) (lsP w (goneS s) (w 7 n)) (2 ^ w 0 0) with
    | none =>
      rw [hb] at kk
      exact ⟨fun _ => kk, fun z => absurd rfl z⟩
    | some r =>
      rw [hb] at kk
      have hr := (bst_in hb).1
      have kk : Q (some (vI (if k = 0 then ((r : Nat) : Int) else cst w (goneS s) r))) M := kk
      refine ⟨fun z => absurd z (by show ¬ ((r : Nat) : Int) = -4; omega), fun _ => ⟨fun k0 => ok9_costIn (base := 0) (by omega) hX.1 hX.2.1 hP.1 hP.2.1 hX.2.2 (by decide) hr ⟨_, rfl, hX.1, ?_⟩, fun k0 => ?_⟩⟩
      · rw [if_neg k0] at kk; exact kk
      · rw [if_pos k0] at kk; exact kk
  · rw [if_neg hk] at kk ⊢
    exact ⟨fun z => absurd rfl z, fun _ => kk⟩
theorem ok8_all {b : Int} (hd : 5 ≤ d) (hX : XIv M w s) (hP : PIv w s) (kk : ∀ M', Ch Ppl M M' → Q (some (vI (aAll w s b))) M') : Ok G mX8_all d 0 0 [vR 1, vI b] M Q := by
  obtain ⟨d, rfl⟩ : ∃ e, d = e + 1 := ⟨d - 1, by omega⟩
  refine Ok_of rfl (Nat.le_of_ble_eq_true rfl) rfl ?_
  unfold aAll at kk
  have hk7 := xlaid hX.1
  have e3 := hX.2.1.1 3 (by decide)
  have h4 := hP.1.1.2.2.2.1
  refine bX8_all_0 _ hX.1 ⟨fun h => ?_, fun h => ⟨fun h2 => ?_, fun h2 => ?_⟩⟩
  · rw [if_neg (by omega)] at kk; exact kk M Ch.rf
  · rw [if_pos (by omega)] at kk
    refine ok_findAll (by omega) rfl hk7 hX.1 hX.2.1 hP.1 hX.2.2.1 hX.2.2.2 hP.2.1 (by have := hP.2.2; omega) (fun M' c e => ⟨_, rfl, hX.1.ch c, fun z => absurd rfl z, fun _ => ?_⟩) (fun M' u c e g2 g3 g88 => ⟨_, rfl, hX.1.ch c, fun _ => ⟨fun e1 => ?_, fun e1 => ?_, fun e1 => ?_⟩, fun z => absurd z (by decide)⟩)
    · rw [e] at kk; exact kk M' c
    · rw [e] at kk
      have kk := kk M' c
      rw [g3]
      simpa [e1] using kk
    · rw [e] at kk
      have kk := kk M' c
      rw [g2]
      simpa [e1] using kk
    · rw [e] at kk
      have kk := kk M' c
      have kk : Q (some (vI (if b = -2 then cst w (goneS s) u else if b = -1 then ((u : Nat) : Int) else (aof w (lse s (w 0 3)) u b.toNat : Nat)))) M' := kk
      rw [if_neg e1.1, if_neg e1.2] at kk
      obtain ⟨n, rfl⟩ := nat_of (show 0 ≤ b by omega)
      refine ok_ribbonInAll (hX.1.ch c) (by omega) ⟨_, rfl, hX.1.ch c, ?_⟩
      rw [g88 n (by omega)]
      exact kk
  · rw [if_neg (by omega)] at kk; exact kk M Ch.rf
theorem ok9_all {b : Int} (hd : 5 ≤ d) (hX : MIv M w s) (hP : PIv w s) (kk : ∀ M', Ch Pmr M M' → Q (some (vI (aAll w s b))) M') : Ok G mX9_all d 0 0 [vR 96, vI b] M Q := by
  obtain ⟨d, rfl⟩ : ∃ e, d = e + 1 := ⟨d - 1, by omega⟩
  refine Ok_of rfl (Nat.le_of_ble_eq_true rfl) rfl ?_
  unfold aAll at kk
  have e3 := hX.2.1.1.2.2.2.1
  have h4 := hP.1.1.2.2.2.1
  refine bX9_all_0 _ hX.1 ⟨⟨by omega, by omega⟩, ok_in ⟨_, rfl, hX.1, ?_⟩⟩
  by_cases hc : -2 ≤ b ∧ b < w 0 3
  · rw [if_pos hc] at kk
    rw [if_pos (by omega)]
    refine ⟨fun _ => ?_, fun z => absurd z (by decide)⟩
    refine ok9_usedByAll (by omega) hX.1 hX.2.1 hP.1 hP.2.1 hX.2.2 fun M' c hSR hHR => ⟨_, rfl, hX.1.ch c, ?_⟩
    have cm : Ch Pmr M M' := c.mono fun q hq => by unfold Phl at hq; unfold Pmr; omega
    have kk := kk M' cm
    have hX' := hX.mr cm
    cases hb : bst w (goneS s) (alP w (goneS s) ((lse s (w 0 3)).map (w 7))) (2 ^ w 0 0) with
    | none =>
      rw [hb] at kk
      exact ⟨fun z => absurd rfl z, fun _ => kk⟩
    | some u =>
      rw [hb] at kk
      have kk : Q (some (vI (if b = -2 then cst w (goneS s) u else if b = -1 then ((u : Nat) : Int) else (aof w (lse s (w 0 3)) u b.toNat : Nat)))) M' := kk
      have hu := bst_in hb
      obtain ⟨ht, hh⟩ := alP_t.mp hu.2
      refine ⟨fun _ => ⟨fun n1 => ⟨fun n2 => ?_, fun n2 => ?_⟩, fun n1 => ?_⟩, fun z => absurd z (by show ¬ ((u : Nat) : Int) = -4; omega)⟩
      · rw [if_neg n2, if_neg n1] at kk
        obtain ⟨n, rfl⟩ := nat_of (show 0 ≤ b by omega)
        rw [Int.toNat_natCast] at kk
        have hpb := pow16 hP.1
        have hul := un_lt (s := s) hP.1
        refine ok9_unbound hX'.1 hX'.2.1 hP.1 hX'.2.2 ⟨_, rfl, hX'.1, ok_has (by omega) (by omega) ⟨_, rfl, hX'.1, ?_⟩⟩
        have hm : n ∈ lse s (w 0 3) ↔ (un w s).testBit n = true := by
          unfold un
          rw [lse_in, mk_bit, Bool.and_eq_true, decide_eq_true_iff, beq_iff_eq]
        cases hbn : (un w s).testBit n
        · refine ⟨fun _ => ?_, fun z => absurd rfl z⟩
          rw [aof_no (fun z => by rw [hm.mp z] at hbn; cases hbn)] at kk
          exact kk
        · refine ⟨fun z => absurd z (by decide), fun _ => ?_⟩
          exact ok9_ribbonOf (by omega) hX'.1 hX'.2.1 hP.1 hX'.2.2 hSR hHR hu.1 ht hh (hm.mpr hbn) ⟨_, rfl, hX'.1, kk⟩
      · rw [if_pos n2] at kk
        exact ok9_costIn (base := 0) (by omega) hX'.1 hX'.2.1 hP.1 hP.2.1 hX'.2.2 (by decide) hu.1 ⟨_, rfl, hX'.1, kk⟩
      · rw [if_neg (by omega), if_pos n1] at kk
        exact kk
  · rw [if_neg hc] at kk
    rw [if_neg (by omega)]
    exact ⟨fun z => absurd rfl z, fun _ => kk M Ch.rf⟩
theorem ok8_more {p : Int} (hd : 3 ≤ d) (hX : XIv M w s) (hP : PIv w s) (k0 : ¬ (1 ≤ p ∧ p ≤ 90) → Q (some (vI (-1))) M) (k1 : (1 ≤ p ∧ p ≤ 90) → ∀ M' v, Ch Ppl M M' → MX w p.toNat (thr w (goneS s)) v → Q (some (vI (v : Nat))) M') : Ok G mX8_more d 0 0 [vR 1, vI p] M Q := by
  obtain ⟨d, rfl⟩ : ∃ e, d = e + 1 := ⟨d - 1, by omega⟩
  refine Ok_of rfl (Nat.le_of_ble_eq_true rfl) rfl ?_
  refine bX8_more_0 _ hX.1 ⟨fun h => k0 (by omega), fun h => ⟨fun h2 => ?_, fun h2 => k0 (by omega)⟩⟩
  obtain ⟨n, rfl⟩ := nat_of (show 0 ≤ p by omega)
  exact ok_gone rfl hX.1 hX.2.2.2 hP.sb ⟨_, rfl, hX.1, ok_thereBesides (by omega) hX.1 hX.2.2.1 hP.1 (goneS_lt' hP.2.1) ⟨_, rfl, hX.1, ok_mostBound (by omega) hX.1 hX.2.2.1 hP.1 thr_lt (by omega) (by omega) fun M' v c hv => ⟨_, rfl, hX.1.ch c, k1 (by omega) M' v (c.mono fun q hq => by unfold Ppl; omega) hv⟩⟩⟩
theorem ok9_more {p : Int} (hd : 3 ≤ d) (hX : MIv M w s) (hP : PIv w s) (k0 : ¬ (1 ≤ p ∧ p ≤ 90) → Q (some (vI (-1))) M) (k1 : (1 ≤ p ∧ p ≤ 90) → ∀ M' v, Ch Pmr M M' → MX w p.toNat (thr w (goneS s)) v → Q (some (vI (v : Nat))) M') : Ok G mX9_more d 0 0 [vR 96, vI p] M Q := by
  obtain ⟨d, rfl⟩ : ∃ e, d = e + 1 := ⟨d - 1, by omega⟩
  refine Ok_of rfl (Nat.le_of_ble_eq_true rfl) rfl ?_
  have hW := hP.1
  have hpw := pow_le hW
  have h10 := hW.1.1
  refine bX9_more_0 _ hX.1 (ok_in ⟨_, rfl, hX.1, ?_⟩)
  rcases Classical.em (¬ (1 ≤ p ∧ p ≤ 90)) with hc | hc
  · rw [if_neg hc]
    exact ⟨fun z => absurd rfl z, fun _ => k0 hc⟩
  have hc : 1 ≤ p ∧ p ≤ 90 := by omega
  rw [if_pos hc]
  refine ⟨fun _ => ?_, fun z => absurd z (by decide)⟩
  have k1 := k1 hc
  obtain ⟨p, rfl⟩ := nat_of (show 0 ≤ p by omega)
  rw [Int.toNat_natCast] at k1
  have hp1 : 1 ≤ p := by omega
  have es : ∀ M', Ch Pmr M M' → ishlv 1 (gI M' 96 5) = ((2 ^ w 0 0 : Nat) : Int) := fun M' c => by rw [(hX.mr c).2.1.1.1]; exact ishl_1 (by omega)
  refine down (fun i => ∀ M', Ch Pmr M M' → SR M' w i → (∀ x, x < i → ∃ v : Nat, gI M' 109 x = (v : Int) ∧ MX w p x v) → Wp G mX9_more (d + 1) 0 0 16 [some (vR 96), some (vI p), some (vI (i : Int)), none, none, none] [] M' 0 0 Q) (n := 2 ^ w 0 0) ?_ ?_ 0 (Nat.zero_le _) M Ch.rf (fun x hx => absurd hx (Nat.not_lt_zero x)) (fun x hx => absurd hx (Nat.not_lt_zero x))
  · intro M' c hSR hK
    have hX' := hX.mr c
    refine bX9_more_16 _ _ hX'.1 ⟨fun _ => ?_, fun h => absurd (by rw [es M' c]; exact Int.le_refl _) h⟩
    have ht := thr_lt (w := w) (g := goneS s)
    refine ok9_thereIn (base := 0) (by omega) hX'.1 hX'.2.1 hW hP.2.1 hX'.2.2 (by decide) ⟨_, rfl, hX'.1, ⟨by omega, by omega⟩, ?_⟩
    obtain ⟨v, v1, v2⟩ := hK _ ht
    rw [Int.toNat_natCast, v1]
    exact k1 M' v c v2
  · intro i hi ih M' c hSR hK
    have hX' := hX.mr c
    refine bX9_more_16 _ _ hX'.1 ⟨fun h => absurd h (by rw [es M' c]; omega), fun _ => ok9_strengthOf (by omega) hX'.1 hX'.2.1 hW (by omega) ⟨_, rfl, hX'.1, ⟨by omega, by omega⟩, ?_⟩⟩
    rintro _ rfl
    rw [Int.toNat_natCast]
    have c2 := c.st (p := 108) (k := i) (x := ((str w i : Nat) : Int)) (show Pmr 108 from ⟨by omega, by omega⟩)
    have hS2 : SR (stI M' 108 i ((str w i : Nat) : Int)) w (i + 1) := fun x hx => by
      by_cases he : x = i
      · rw [he, gI_same]
      · rw [gI_ne _ _ (by omega)]; exact hSR x (by omega)
    have hK2 : ∀ x, x < i → ∃ v : Nat, gI (stI M' 108 i ((str w i : Nat) : Int)) 109 x = (v : Int) ∧ MX w p x v := fun x hx => by
      rw [gI_ne _ _ (by omega)]; exact hK x hx
    generalize stI M' 108 i ((str w i : Nat) : Int) = M2 at *
    have hX2 := hX.mr c2
    refine dsub (fun r => ∀ v : Nat, (v = 0 ∨ ∃ x u, x ≠ 0 ∧ sub x i ∧ p ≤ str w x ∧ MX w p (nd i x) u ∧ v = 1 + u) → (∀ x u, r < x → x ≠ 0 → sub x i → p ≤ str w x → MX w p (nd i x) u → 1 + u ≤ v) → Wp G mX9_more (d + 1) 0 0 42 [some (vR 96), some (vI p), some (vI (i : Int)), some (vI (v : Int)), some (vI (r : Int)), none] [] M2 0 0 Q) (s := i) ?_ ?_ 0 (Or.inl rfl) (fun x u hx _ hxi => by have := sub_le hxi; omega)
    · intro v h1 h2
      refine bX9_more_42 _ _ _ _ hX2.1 ⟨fun _ => ⟨⟨by omega, by omega⟩, ?_⟩, fun h => absurd (by omega) h⟩
      rintro _ rfl
      rw [Int.toNat_natCast]
      have hm : MX w p i v := MX_of h1 (fun r u hr => h2 r u (by omega) hr) fun r hr hri => by
        have := nd_lt_of hri hr
        obtain ⟨u, _, hu⟩ := hK2 (nd i r) (by omega)
        exact ⟨u, hu⟩
      refine ⟨⟨by omega, by omega⟩, ih _ (c2.st (show Pmr 109 from ⟨by omega, by omega⟩)) (fun x hx => (gI_ne _ _ (by omega)).trans (hS2 x hx)) fun x hx => ?_⟩
      by_cases he : x = i
      · exact ⟨v, by rw [he, gI_same], by rw [he]; exact hm⟩
      · rw [gI_ne _ _ (by omega)]; exact hK2 x (by omega)
    · intro r hr0 hr ihr v h1 h2
      have hr2 := sub_le hr
      have en : iandv ((r : Int) - 1) (i : Int) = (((r - 1) &&& i : Nat) : Int) := by
        rw [show ((r : Int) - 1) = ((r - 1 : Nat) : Int) by omega, iand_n (by omega)]
      have hn := nd_lt_of hr hr0
      obtain ⟨u, u1, u2⟩ := hK2 (nd i r) hn
      have hu4 := hld_le hW hp1 u2.1
      have next : ∀ y : Nat, v ≤ y → (p ≤ str w r → 1 + u ≤ y) → (y = 0 ∨ ∃ x u, x ≠ 0 ∧ sub x i ∧ p ≤ str w x ∧ MX w p (nd i x) u ∧ y = 1 + u) → Wp G mX9_more (d + 1) 0 0 42 [some (vR 96), some (vI p), some (vI (i : Int)), some (vI (y : Int)), some (vI (((r - 1) &&& i : Nat) : Int)), none] [] M2 0 0 Q := by
        intro y hy hyu hya
        refine ihr y hya fun x z hx hx0 hxi hxp hxm => ?_
        rcases Nat.lt_trichotomy x r with q | q | q
        · have := next_sub r hxi hr q
          omega
        · subst q
          rw [hxm.uq u2]
          exact hyu hxp
        · have := h2 x z q hx0 hxi hxp hxm
          omega
      refine bX9_more_42 _ _ _ _ hX2.1 ⟨fun h => absurd h (by omega), fun _ => ⟨⟨by omega, by omega⟩, ?_⟩⟩
      rw [Int.toNat_natCast, hS2 r (by omega), en, ind_n (by omega), Int.toNat_natCast, u1]
      refine ⟨fun hlt => ⟨⟨by omega, by omega⟩, ?_⟩, fun hge => ⟨⟨by omega, by omega⟩, ⟨by omega, by omega⟩, ⟨by omega, by omega⟩, ?_⟩⟩
      · rw [if_pos (by omega)]
        exact next v (Nat.le_refl v) (fun z => by omega) h1
      · by_cases hc2 : (1 + (u : Int)) ≤ (v : Int)
        · rw [if_pos hc2]
          exact next v (Nat.le_refl v) (fun _ => by omega) h1
        · rw [if_neg hc2, show (1 + (u : Int)) = ((1 + u : Nat) : Int) by omega]
          exact next (1 + u) (by omega) (fun _ => Nat.le_refl _) (Or.inr ⟨r, u, hr0, hr, by omega, u2, rfl⟩)
end QUERAL
