/-! ===== the reference: what its fields hold, what it reads out of them ===== -/
def nm (w : WT) (a : Nat) : Nat := om (fun i => if w 4 i = a then 2 ^ w 3 i else 0) (w 0 1)
theorem nm_bit {w : WT} {a j : Nat} : (nm w a).testBit j = true ↔ ∃ i, i < w 0 1 ∧ w 4 i = a ∧ w 3 i = j := by
  unfold nm
  rw [om_bit]
  refine ⟨fun ⟨i, h1, h2⟩ => ?_, fun ⟨i, h1, h2, h3⟩ => ⟨i, h1, ?_⟩⟩
  · split at h2
    · rw [two_pow_bit] at h2
      exact ⟨i, h1, by assumption, of_decide_eq_true h2⟩
    · rw [Nat.zero_testBit] at h2
      cases h2
  · rw [if_pos h2, two_pow_bit, h3]
    exact decide_eq_true rfl
theorem nm_lt {w : WT} (h : WOk w) (a : Nat) : nm w a < 2 ^ w 0 0 := om_lt fun i hi => by
  have := (h.2.2.1 i hi).1
  split
  · exact Nat.pow_lt_pow_right (by decide) this
  · exact Nat.two_pow_pos _
def MW (M : MM) (w : WT) : Prop := (gI M 96 5 = w 0 0 ∧ gI M 96 9 = w 0 1 ∧ gI M 96 10 = w 0 2 ∧ gI M 96 13 = w 0 3 ∧ gI M 96 15 = w 0 4) ∧ (∀ t, t < w 0 0 → gI M 99 t = w 1 t ∧ gI M 100 t = w 2 t ∧ gI M 101 t = nm w t) ∧ (∀ i, i < w 0 2 → gI M 102 i = w 5 i ∧ gI M 103 i = w 6 i) ∧ (∀ b, b < w 0 3 → gI M 104 b = w 7 b) ∧ ∀ e, e < w 0 4 → ∀ j, j < 4 → gI M 105 (4 * e + j) = w (8 + j) e
/-- a State in the row of the reference -/
def RV (M : MM) (base : Nat) (s : WT) : Prop := (∀ b, b < 4 → gI M 97 (base + b) = s 0 b ∧ gI M 97 (base + 4 + b) = s 1 b ∧ gI M 97 (base + 8 + b) = s 2 b) ∧ gI M 97 (base + 12) = s 3 0
theorem gone_b {w s : WT} (h : SI w s) (hW : WOk w) : om (s 0) (w 0 3) = goneS s := by
  unfold goneS
  have key : ∀ m, w 0 3 ≤ m → m ≤ 4 → om (s 0) m = om (s 0) (w 0 3) := by
    intro m
    induction m with
    | zero => intro h1 _; rw [show w 0 3 = 0 by omega]
    | succ m ih =>
      intro h1 h2
      rcases Nat.lt_or_ge m (w 0 3) with q | q
      · rw [show w 0 3 = m + 1 by omega]
      · show om (s 0) m ||| s 0 m = _
        rw [ih q (by omega), (h.1 m (by omega)).2.1 q, Nat.or_zero]
  exact (key 4 hW.1.2.2.2.1 (Nat.le_refl _)).symm
theorem found_b {w s : WT} (h : SI w s) (hW : WOk w) (late : Nat) : om (fun b => if s 1 b < 2 then nd (s 0 b) late else s 0 b) (w 0 3) = foundS s late := by
  unfold foundS
  have key : ∀ m, w 0 3 ≤ m → m ≤ 4 → om (fun b => if s 1 b < 2 then nd (s 0 b) late else s 0 b) m = om (fun b => if s 1 b < 2 then nd (s 0 b) late else s 0 b) (w 0 3) := by
    intro m
    induction m with
    | zero => intro h1 _; rw [show w 0 3 = 0 by omega]
    | succ m ih =>
      intro h1 h2
      rcases Nat.lt_or_ge m (w 0 3) with q | q
      · rw [show w 0 3 = m + 1 by omega]
      · show om _ m ||| (if s 1 m < 2 then nd (s 0 m) late else s 0 m) = _
        have e : (if s 1 m < 2 then nd (s 0 m) late else s 0 m) = 0 := by
          rw [(h.1 m (by omega)).2.1 q]
          have : nd 0 late = 0 := by unfold nd; simp
          rw [this]
          split <;> rfl
        rw [ih q (by omega), e, Nat.or_zero]
  exact (key 4 hW.1.2.2.2.1 (Nat.le_refl _)).symm
theorem sub_le {a b : Nat} (h : sub a b) : a ≤ b := by
  have e : a &&& b = a := by
    apply Nat.eq_of_testBit_eq
    intro i
    rw [Nat.testBit_and]
    cases ha : a.testBit i
    · rfl
    · rw [h i ha]; rfl
  rw [← e]
  exact Nat.and_le_right
section MREAD
variable {G : GG} {M : MM} {d : Nat} {Q : Option AV → MM → Prop}
theorem ok9_strengthOf {s : Nat} {w : WT} (hd : 1 ≤ d) (hS : ShM M) (hw : MW M w) (hW : WOk w) (hs : s < 1024) (kk : Q (some (vI (str w s : Nat))) M) : Ok G mX9_strengthOf d 0 0 [vR 96, vI s] M Q := by
  obtain ⟨d, rfl⟩ : ∃ e, d = e + 1 := ⟨d - 1, by omega⟩
  refine Ok_of rfl (Nat.le_of_ble_eq_true rfl) rfl ?_
  refine bX9_strengthOf_0 _ hS ?_
  have e0 := hw.1.1
  have hn := hW.1.1
  have hb : ∀ t, t < w 0 0 → w 1 t ≤ 20 := fun t ht => (hW.2.1 t ht).1
  refine down (fun i => Wp G mX9_strengthOf (d + 1) 0 0 10 [some (vR 96), some (vI s), some (vI (sA w s i : Nat)), some (vI (sC w s i : Nat)), some (vI (sL w s i : Nat)), some (vI (i : Int)), none] [] M 0 0 Q) (n := w 0 0) ?_ ?_ 0 (Nat.zero_le _)
  · have h1 := sA_le (w := w) (s := s) (n := w 0 0) hb
    have h2 := sL_le (w := w) (s := s) (n := w 0 0) hb
    refine bX9_strengthOf_10 _ _ _ _ _ hS ⟨fun _ => ?_, fun h => absurd h (by omega)⟩
    unfold str at kk
    by_cases hc : 1 < sC w s (w 0 0)
    · rw [if_pos hc] at kk
      rw [if_neg (by omega)]
      exact ⟨⟨by omega, by omega⟩, kk⟩
    · rw [if_neg hc] at kk
      rw [if_pos (by omega)]
      exact ⟨⟨by omega, by omega⟩, kk⟩
  · intro i hi ih
    have h1 := sA_le (w := w) (s := s) (n := i) (fun t ht => hb t (by omega))
    have h2 := sL_le (w := w) (s := s) (n := i) (fun t ht => hb t (by omega))
    have h3 := sC_le (w := w) (s := s) (n := i)
    have hbi := hb i hi
    have eA : sA w s (i + 1) = sA w s i + (if s.testBit i then w 1 i else 0) := rfl
    have eC : sC w s (i + 1) = sC w s i + (if s.testBit i && w 2 i == 1 then 1 else 0) := rfl
    have eL : sL w s (i + 1) = sL w s i + (if s.testBit i && w 2 i == 1 then w 1 i else 0) := rfl
    rw [eA, eC, eL] at ih
    obtain ⟨t1, t2, -⟩ := hw.2.1 i hi
    refine bX9_strengthOf_10 _ _ _ _ _ hS ⟨fun h => absurd h (by omega), fun _ => ok_has (by omega) (by omega) ⟨_, rfl, hS, ?_⟩⟩
    rw [Int.toNat_natCast, t1, t2]
    cases hsb : s.testBit i
    · rw [hsb] at ih
      exact ⟨fun _ => ⟨⟨by omega, by omega⟩, ⟨by omega, by omega⟩, ⟨by omega, by omega⟩, ⟨by omega, by omega⟩, ih⟩, fun h => absurd rfl h⟩
    · rw [hsb] at ih
      refine ⟨fun h => absurd h (by decide), fun _ => ⟨by omega, ⟨by omega, by omega⟩, ⟨by split <;> omega, by split <;> omega⟩, fun h => ⟨⟨by omega, by omega⟩, ⟨by omega, by omega⟩, ?_⟩, fun h => ⟨⟨by omega, by omega⟩, ⟨by omega, by omega⟩, ?_⟩⟩⟩
      · have hk : (w 2 i == 1) = false := by simpa using (show ¬ w 2 i = 1 by omega)
        rw [hk] at ih
        rw [if_neg (by omega)]
        exact ih
      · have hk : (w 2 i == 1) = true := by simpa using (show w 2 i = 1 by omega)
        rw [hk] at ih
        rw [if_pos (by omega)]
        exact ih
theorem ok9_followsOf {s : Nat} {w : WT} (hd : 1 ≤ d) (hS : ShM M) (hw : MW M w) (hW : WOk w) (hs : s < 2 ^ w 0 0) (kk : Q (some (vI (fol w s : Nat))) M) : Ok G mX9_followsOf d 0 0 [vR 96, vI s] M Q := by
  obtain ⟨d, rfl⟩ : ∃ e, d = e + 1 := ⟨d - 1, by omega⟩
  refine Ok_of rfl (Nat.le_of_ble_eq_true rfl) rfl ?_
  refine bX9_followsOf_0 _ hS ?_
  have e0 := hw.1.1
  have hn := hW.1.1
  have hF := fol_lt hW hs
  have hF2 := set_lt hW hF
  have hfix := fol_fix hW hs
  have done : ∀ v : Nat, sub s v → sub v (fol w s) → stp w v = v → Wp G mX9_followsOf (d + 1) 0 0 4 [some (vR 96), none, some (vI (v : Int)), some (vI (v : Int)), none] [] M 0 0 Q := by
    intro v h1 h2 h3
    refine bX9_followsOf_4 _ _ hS ⟨fun _ => ?_, fun h => absurd rfl h⟩
    have : v = fol w s := sub_eq h2 (fol_in h1 h3)
    rw [this]
    exact kk
  have main : ∀ k : Nat, ∀ v h : Nat, sub s v → sub v (fol w s) → v ≠ h → 1024 ≤ k + v → Wp G mX9_followsOf (d + 1) 0 0 4 [some (vR 96), none, some (vI (v : Int)), some (vI (h : Int)), none] [] M 0 0 Q := by
    intro k
    induction k with
    | zero =>
      intro v h _ h2 _ h4
      have := set_lt hW (sub_lt h2 hF)
      omega
    | succ k ih =>
      intro v h h1 h2 h3 h4
      have hv := sub_lt h2 hF
      have hv2 := set_lt hW hv
      refine bX9_followsOf_4 _ _ hS ⟨fun e => by omega, fun e => ?_⟩
      refine down (fun i => ∀ u : Nat, (∀ j, u.testBit j = true ↔ v.testBit j = true ∨ ∃ t, t < i ∧ v.testBit t = true ∧ (nm w t).testBit j = true) → Wp G mX9_followsOf (d + 1) 0 0 14 [some (vR 96), none, some (vI (u : Int)), some (vI (v : Int)), some (vI (i : Int))] [] M 0 0 Q) (n := w 0 0) ?_ ?_ 0 (Nat.zero_le _) v (fun j => ⟨Or.inl, fun h => h.elim id (fun ⟨t, ht, _⟩ => absurd ht (Nat.not_lt_zero t))⟩)
      · intro u a2
        have eu : u = stp w v := by
          apply Nat.eq_of_testBit_eq
          intro j
          rw [Bool.eq_iff_iff, a2, stp_bit]
          refine or_congr Iff.rfl ⟨fun ⟨t, b1, b2, b3⟩ => ?_, fun ⟨i, b1, b2, b3⟩ => ?_⟩
          · obtain ⟨i, c1, c2, c3⟩ := nm_bit.mp b3
            exact ⟨i, c1, by rw [c2]; exact b2, c3⟩
          · exact ⟨w 4 i, (hW.2.2.1 i b1).2, b2, nm_bit.mpr ⟨i, b1, rfl, b3⟩⟩
        refine bX9_followsOf_14 _ _ _ hS ⟨fun _ => ?_, fun h => absurd h (by omega)⟩
        have hs2 : sub v u := by rw [eu]; exact stp_sub
        have hu : sub u (fol w s) := by
          have := stp_mono (w := w) h2
          rw [hfix, ← eu] at this
          exact this
        by_cases hvu : u = v
        · rw [hvu]
          exact done v h1 h2 (by rw [← eu]; exact hvu)
        · refine ih u v (sub_tr h1 hs2) hu hvu ?_
          have := sub_le hs2
          omega
      · intro i hi ih2 u a2
        have hu : u < 1024 := by
          have : u < 2 ^ w 0 0 := lt_bits fun j hj => by
            cases hb : u.testBit j
            · rfl
            · rcases (a2 j).mp hb with q | ⟨t, _, _, q⟩
              · exact absurd (bits_lt hv q) (by omega)
              · exact absurd (bits_lt (nm_lt hW t) q) (by omega)
          exact set_lt hW this
        have hnm := set_lt hW (nm_lt hW i)
        refine bX9_followsOf_14 _ _ _ hS ⟨fun h => absurd h (by omega), fun _ => ok_has (by omega) (by omega) ⟨_, rfl, hS, ?_⟩⟩
        cases hvi : v.testBit i
        · refine ⟨fun _ => ⟨⟨by omega, by omega⟩, ?_⟩, fun h => absurd rfl h⟩
          rw [show (0 : Int) = ((0 : Nat) : Int) from rfl, ior_n (by omega) (by decide), Nat.or_zero]
          refine ih2 u (fun j => (a2 j).trans (or_congr Iff.rfl ⟨fun ⟨t, b1, b2⟩ => ⟨t, by omega, b2⟩, fun ⟨t, b1, b2, b3⟩ => ⟨t, ?_, b2, b3⟩⟩))
          rcases Nat.lt_or_ge t i with q | q
          · exact q
          · rw [show t = i by omega, hvi] at b2
            cases b2
        · refine ⟨fun h => absurd h (by decide), fun _ => ⟨by omega, ⟨by omega, by omega⟩, ?_⟩⟩
          rw [Int.toNat_natCast, (hw.2.1 i hi).2.2, ior_n (by omega) (by omega)]
          refine ih2 (u ||| nm w i) (fun j => ?_)
          rw [Nat.testBit_or, Bool.or_eq_true, a2]
          constructor
          · rintro ((q | ⟨t, b1, b2⟩) | q)
            · exact Or.inl q
            · exact Or.inr ⟨t, by omega, b2⟩
            · exact Or.inr ⟨i, by omega, hvi, q⟩
          · rintro (q | ⟨t, b1, b2, b3⟩)
            · exact Or.inl (Or.inl q)
            · rcases Nat.lt_or_ge t i with z | z
              · exact Or.inl (Or.inr ⟨t, z, b2, b3⟩)
              · rw [show t = i by omega] at b3
                exact Or.inr b3
  by_cases h0 : s = 0
  · subst h0
    have e : fol w 0 = 0 := fol_0
    rw [e] at kk
    exact bX9_followsOf_4 _ _ hS ⟨fun _ => kk, fun h => absurd rfl h⟩
  · exact main 1024 s 0 sub_rf fol_sub h0 (by omega)
theorem ok9_goneIn {base : Nat} {w s : WT} (hS : ShM M) (hw : MW M w) (hW : WOk w) (hI : SI w s) (hR : RV M base s) (hb : base ≤ 143) (kk : Q (some (vI (goneS s : Nat))) M) : Ok G mX9_goneIn d 0 0 [vR 96, vI base] M Q := by
  refine Ok_of rfl (Nat.le_of_ble_eq_true rfl) rfl ?_
  refine bX9_goneIn_0 _ hS ?_
  have e0 := hw.1.2.2.2.1
  have h4 := hW.1.2.2.2.1
  rw [← gone_b hI hW] at kk
  refine down (fun i => Wp G mX9_goneIn d 0 0 4 [some (vR 96), some (vI base), some (vI (om (s 0) i : Nat)), some (vI (i : Int))] [] M 0 0 Q) (n := w 0 3) ?_ ?_ 0 (Nat.zero_le _)
  · exact bX9_goneIn_4 _ _ _ hS ⟨fun _ => kk, fun h => absurd h (by omega)⟩
  · intro i hi ih
    have h1 := om_pre (f := s 0) (k := 10) (n := 4) (fun i hi => set_lt hW (hI.1 i hi).1) (m := i) (by omega)
    have h2 := set_lt hW (hI.1 i (by omega)).1
    refine bX9_goneIn_4 _ _ _ hS ⟨fun h => absurd h (by omega), fun _ => ⟨⟨by omega, by omega⟩, ⟨by omega, by omega⟩, by omega, ⟨by omega, by omega⟩, ?_⟩⟩
    rw [show ((base : Int) + 0 + (i : Int)).toNat = base + i by omega, (hR.1 i (by omega)).1, ior_n (by omega) (by omega)]
    exact ih
theorem ok9_thereIn {base : Nat} {w s : WT} (hd : 2 ≤ d) (hS : ShM M) (hw : MW M w) (hW : WOk w) (hI : SI w s) (hR : RV M base s) (hb : base ≤ 143) (kk : Q (some (vI (thr w (goneS s) : Nat))) M) : Ok G mX9_thereIn d 0 0 [vR 96, vI base] M Q := by
  obtain ⟨d, rfl⟩ : ∃ e, d = e + 1 := ⟨d - 1, by omega⟩
  refine Ok_of rfl (Nat.le_of_ble_eq_true rfl) rfl ?_
  have hn := hW.1.1
  have h1 := pow_le hW
  have h2 := Nat.two_pow_pos (w 0 0)
  refine bX9_thereIn_0 _ hS ?_
  rw [hw.1.1, ishl_1 (by omega)]
  have e : ((2 ^ w 0 0 : Nat) : Int) - 1 = ((2 ^ w 0 0 - 1 : Nat) : Int) := by omega
  rw [e]
  refine ⟨⟨by omega, by omega⟩, ok9_goneIn hS hw hW hI hR hb ⟨_, rfl, hS, ok9_followsOf (by omega) hS hw hW (goneS_lt' hI) ⟨_, rfl, hS, ?_⟩⟩⟩
  rw [ind_n (by omega)]
  exact kk
theorem ok9_lateSet {w : WT} (hS : ShM M) (hw : MW M w) (hW : WOk w) (kk : Q (some (vI (km w 3 : Nat))) M) : Ok G mX9_lateSet d 0 0 [vR 96] M Q := by
  refine Ok_of rfl (Nat.le_of_ble_eq_true rfl) rfl ?_
  refine bX9_lateSet_0 hS ?_
  have e0 := hw.1.1
  have hn := hW.1.1
  refine down (fun i => Wp G mX9_lateSet d 0 0 4 [some (vR 96), some (vI (mk (fun t => w 2 t == 3) i : Nat)), some (vI (i : Int))] [] M 0 0 Q) (n := w 0 0) ?_ ?_ 0 (Nat.zero_le _)
  · exact bX9_lateSet_4 _ _ hS ⟨fun _ => kk, fun h => absurd h (by omega)⟩
  · intro i hi ih
    have h1 : mk (fun t => w 2 t == 3) i < 2 ^ 10 := mk_lt (by omega)
    have hp : 2 ^ i < 2 ^ 10 := Nat.pow_lt_pow_right (by decide) (by omega)
    rw [mk_succ] at ih
    refine bX9_lateSet_4 _ _ hS ⟨fun h => absurd h (by omega), fun _ => ⟨by omega, ⟨by omega, by omega⟩, ?_⟩⟩
    rw [Int.toNat_natCast, (hw.2.1 i hi).2.1, ishl_1 (by omega)]
    by_cases h3 : w 2 i = 3
    · rw [if_pos (by simpa using h3)] at ih
      rw [if_pos (by omega), ior_n (by omega) (by omega)]
      exact ih
    · rw [if_neg (by simpa using h3)] at ih
      rw [if_neg (by omega), show (0 : Int) = ((0 : Nat) : Int) from rfl, ior_n (by omega) (by omega)]
      exact ih
theorem iand_m1 {a : Nat} (h : a < 2147483648) : iandv (a : Int) (-1) = a := by
  have e := ind_n (a := a) (b := 0) h
  have e2 : ixorv ((0 : Nat) : Int) (-1) = -1 := by decide
  rw [e2] at e
  rw [e]
  unfold nd
  simp
theorem ok9_foundIn {base : Nat} {w s : WT} (hd : 1 ≤ d) (hS : ShM M) (hw : MW M w) (hW : WOk w) (hI : SI w s) (hR : RV M base s) (hb : base ≤ 143) (kk : Q (some (vI (foundS s (km w 3) : Nat))) M) : Ok G mX9_foundIn d 0 0 [vR 96, vI base] M Q := by
  obtain ⟨d, rfl⟩ : ∃ e, d = e + 1 := ⟨d - 1, by omega⟩
  refine Ok_of rfl (Nat.le_of_ble_eq_true rfl) rfl ?_
  refine bX9_foundIn_0 _ hS ?_
  have e0 := hw.1.2.2.2.1
  have h4 := hW.1.2.2.2.1
  rw [← found_b hI hW] at kk
  refine down (fun i => Wp G mX9_foundIn (d + 1) 0 0 4 [some (vR 96), some (vI base), some (vI (om (fun b => if s 1 b < 2 then nd (s 0 b) (km w 3) else s 0 b) i : Nat)), some (vI (i : Int))] [] M 0 0 Q) (n := w 0 3) ?_ ?_ 0 (Nat.zero_le _)
  · exact bX9_foundIn_4 _ _ _ hS ⟨fun _ => kk, fun h => absurd h (by omega)⟩
  · intro i hi ih
    have h1 := om_pre (f := fun b => if s 1 b < 2 then nd (s 0 b) (km w 3) else s 0 b) (k := 10) (n := 4) (fun i hi => by
      have := set_lt hW (hI.1 i hi).1
      show (if s 1 i < 2 then nd (s 0 i) (km w 3) else s 0 i) < 2 ^ 10
      split
      · exact nd_lt this
      · exact this) (m := i) (by omega)
    have h2 := set_lt hW (hI.1 i (by omega)).1
    have h3 : nd (s 0 i) (km w 3) < 1024 := nd_lt (k := 10) h2
    have e : om (fun b => if s 1 b < 2 then nd (s 0 b) (km w 3) else s 0 b) (i + 1) = om (fun b => if s 1 b < 2 then nd (s 0 b) (km w 3) else s 0 b) i ||| (if s 1 i < 2 then nd (s 0 i) (km w 3) else s 0 i) := rfl
    rw [e] at ih
    obtain ⟨r1, r2, -⟩ := hR.1 i (by omega)
    refine bX9_foundIn_4 _ _ _ hS ⟨fun h => absurd h (by omega), fun _ => ⟨⟨by omega, by omega⟩, ⟨by omega, by omega⟩, by omega, ⟨by omega, by omega⟩, ⟨by omega, by omega⟩, by omega, ?_⟩⟩
    rw [show ((base : Int) + 0 + (i : Int)).toNat = base + i by omega, show ((base : Int) + 4 + (i : Int)).toNat = base + 4 + i by omega, r1, r2]
    refine ⟨fun h => ⟨⟨by omega, by omega⟩, ?_⟩, fun h => ok9_lateSet hS hw hW ⟨_, rfl, hS, ⟨by omega, by omega⟩, ?_⟩⟩
    · rw [if_neg (by omega)] at ih
      rw [iand_m1 (by omega), ior_n (by omega) (by omega)]
      exact ih
    · rw [if_pos (by omega)] at ih
      rw [ind_n (by omega), ior_n (by omega) (by omega)]
      exact ih
theorem ok9_missedBy {f : Nat} {w : WT} (hd : 1 ≤ d) (hS : ShM M) (hw : MW M w) (hW : WOk w) (hf : f < 1024) (kk : Q (some (vI (lsF w f : Nat))) M) : Ok G mX9_missedBy d 0 0 [vR 96, vI f] M Q := by
  obtain ⟨d, rfl⟩ : ∃ e, d = e + 1 := ⟨d - 1, by omega⟩
  refine Ok_of rfl (Nat.le_of_ble_eq_true rfl) rfl ?_
  refine bX9_missedBy_0 _ hS ?_
  have e0 := hw.1.2.2.1
  have h8 := hW.1.2.2.1
  have hn := hW.1.1
  refine down (fun i => Wp G mX9_missedBy (d + 1) 0 0 4 [some (vR 96), some (vI f), some (vI (sm (fun i => if f.testBit (w 5 i) then w 6 i else 0) i : Nat)), some (vI (i : Int))] [] M 0 0 Q) (n := w 0 2) ?_ ?_ 0 (Nat.zero_le _)
  · exact bX9_missedBy_4 _ _ _ hS ⟨fun _ => kk, fun h => absurd h (by omega)⟩
  · intro i hi ih
    obtain ⟨h5, h6, h7⟩ := hW.2.2.2.1 i hi
    have hle := sm_le (f := fun i => if f.testBit (w 5 i) then w 6 i else 0) (c := 9) (n := i) (fun j hj => by
      have := (hW.2.2.2.1 j (by omega)).2.2
      show (if f.testBit (w 5 j) then w 6 j else 0) ≤ 9
      split <;> omega)
    have es : sm (fun i => if f.testBit (w 5 i) then w 6 i else 0) (i + 1) = sm (fun i => if f.testBit (w 5 i) then w 6 i else 0) i + (if f.testBit (w 5 i) then w 6 i else 0) := rfl
    rw [es] at ih
    generalize sm (fun i => if f.testBit (w 5 i) then w 6 i else 0) i = A at hle ih ⊢
    obtain ⟨p1, p2⟩ := hw.2.2.1 i hi
    refine bX9_missedBy_4 _ _ _ hS ⟨fun h => absurd h (by omega), fun _ => ⟨by omega, ?_⟩⟩
    rw [Int.toNat_natCast, p1]
    refine ok_has (by omega) (by omega) ⟨_, rfl, hS, ?_⟩
    rw [p2]
    cases hb : f.testBit (w 5 i)
    · rw [hb] at ih
      exact ⟨fun _ => ⟨⟨by omega, by omega⟩, ⟨by omega, by omega⟩, ih⟩, fun h => absurd rfl h⟩
    · rw [hb] at ih
      exact ⟨fun h => absurd h (by decide), fun _ => ⟨⟨by omega, by omega⟩, ⟨by omega, by omega⟩, ih⟩⟩
theorem ok9_missedIn {base : Nat} {w s : WT} (hd : 2 ≤ d) (hS : ShM M) (hw : MW M w) (hW : WOk w) (hI : SI w s) (hR : RV M base s) (hb : base ≤ 143) (kk : Q (some (vI (los w (foundS s (km w 3)) : Nat))) M) : Ok G mX9_missedIn d 0 0 [vR 96, vI base] M Q := by
  obtain ⟨d, rfl⟩ : ∃ e, d = e + 1 := ⟨d - 1, by omega⟩
  refine Ok_of rfl (Nat.le_of_ble_eq_true rfl) rfl ?_
  exact bX9_missedIn_0 _ hS (ok9_foundIn (by omega) hS hw hW hI hR hb ⟨_, rfl, hS, ok9_followsOf (by omega) hS hw hW (foundS_lt' hI) ⟨_, rfl, hS, ok9_missedBy (by omega) hS hw hW (set_lt hW (fol_lt hW (foundS_lt' hI))) ⟨_, rfl, hS, kk⟩⟩⟩)
theorem ok9_costIn {base c : Nat} {w s : WT} (hd : 2 ≤ d) (hS : ShM M) (hw : MW M w) (hW : WOk w) (hI : SI w s) (hR : RV M base s) (hb : base ≤ 143) (hc : c < 2 ^ w 0 0) (kk : Q (some (vI ((los w (goneS s ||| c) : Nat) - (los w (goneS s) : Nat) : Int))) M) : Ok G mX9_costIn d 0 0 [vR 96, vI base, vI c] M Q := by
  obtain ⟨d, rfl⟩ : ∃ e, d = e + 1 := ⟨d - 1, by omega⟩
  refine Ok_of rfl (Nat.le_of_ble_eq_true rfl) rfl ?_
  have hg := goneS_lt' hI
  have hg2 := set_lt hW hg
  have hc2 := set_lt hW hc
  have ho : goneS s ||| c < 2 ^ w 0 0 := or_lt hg hc
  have h3 := los_le hW (goneS s ||| c)
  have h4 := los_le hW (goneS s)
  refine bX9_costIn_0 _ _ hS (ok9_goneIn hS hw hW hI hR hb ⟨_, rfl, hS, ?_⟩)
  rw [ior_n (by omega) (by omega)]
  refine ok9_followsOf (by omega) hS hw hW ho ⟨_, rfl, hS, ok9_missedBy (by omega) hS hw hW (set_lt hW (fol_lt hW ho)) ⟨_, rfl, hS, ok9_followsOf (by omega) hS hw hW hg ⟨_, rfl, hS, ok9_missedBy (by omega) hS hw hW (set_lt hW (fol_lt hW hg)) ⟨_, rfl, hS, ?_, kk⟩⟩⟩⟩
  show R32 ((los w (goneS s ||| c) : Nat) - (los w (goneS s) : Nat) : Int)
  exact ⟨by omega, by omega⟩
end MREAD
