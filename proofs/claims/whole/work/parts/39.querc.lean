/-! ===== worst, back, missing: class and reference ===== -/
theorem iand_m1' {a : Nat} (h : a < 2147483648) : iandv (-1) (a : Int) = a := by
  have e : iandv (-1) (a : Int) = iandv (a : Int) (-1) := by
    unfold iandv
    rw [Int32.and_comm]
  rw [e, iand_m1 h]
def wc (w : WT) (t n : Nat) : Nat := pc (nd (fol w (2 ^ n) &&& t) (2 ^ n)) 10
def wst (w : WT) (t : Nat) : Nat → Int × Int
  | 0 => (-4, -4)
  | n + 1 => if t.testBit n = true ∧ (wst w t n).2 < (wc w t n : Int) then ((n : Int), (wc w t n : Int)) else wst w t n
theorem wst_ge {w : WT} {t : Nat} : ∀ n, -4 ≤ (wst w t n).2
  | 0 => Int.le_refl _
  | n + 1 => by
    have := wst_ge (w := w) (t := t) n
    show -4 ≤ (if t.testBit n = true ∧ (wst w t n).2 < (wc w t n : Int) then ((n : Int), (wc w t n : Int)) else wst w t n).2
    split
    · show -4 ≤ (wc w t n : Int)
      omega
    · exact this
def aWorst (w s : WT) (k : Int) : Int := if 0 ≤ k ∧ k ≤ 1 then (if k = 0 then (wst w (thr w (goneS s)) (w 0 0)).1 else (wst w (thr w (goneS s)) (w 0 0)).2) else -1
def bck (w : WT) (g t n : Nat) : Nat := mk (fun j => g.testBit j && (fol w (2 ^ j)).testBit t) n
def aBack (w s : WT) (t : Int) : Int := if 0 ≤ t ∧ t < w 0 0 then (bck w (goneS s) t.toNat (w 0 0) : Nat) else -1
theorem one_lt {w : WT} {i : Nat} (hi : i < w 0 0) : 2 ^ i < 2 ^ w 0 0 := Nat.pow_lt_pow_right (by decide) hi
section QUERC
variable {G : GG} {M : MM} {d : Nat} {Q : Option AV → MM → Prop} {w s : WT}
theorem ok8_worst {k : Int} (hd : 3 ≤ d) (hX : XIv M w s) (hP : PIv w s) (kk : Q (some (vI (aWorst w s k))) M) : Ok G mX8_worst d 0 0 [vR 1, vI k] M Q := by
  obtain ⟨d, rfl⟩ : ∃ e, d = e + 1 := ⟨d - 1, by omega⟩
  refine Ok_of rfl (Nat.le_of_ble_eq_true rfl) rfl ?_
  unfold aWorst at kk
  have hW := hP.1
  have h10 := hW.1.1
  have hpw := pow_le hW
  refine bX8_worst_0 _ hX.1 ⟨fun h => by rwa [if_neg (by omega)] at kk, fun h => ⟨fun h2 => ?_, fun h2 => by rwa [if_neg (by omega)] at kk⟩⟩
  rw [if_pos (by omega)] at kk
  refine ok_gone rfl hX.1 hX.2.2.2 hP.sb ⟨_, rfl, hX.1, ok_thereBesides (by omega) hX.1 hX.2.2.1 hW (goneS_lt' hP.2.1) ⟨_, rfl, hX.1, ?_⟩⟩
  have ht := thr_lt (w := w) (g := goneS s)
  generalize thr w (goneS s) = t at *
  have e0 := hX.2.1.1 0 (by decide)
  refine down (fun i => Wp G mX8_worst (d + 1) 0 0 36 [some (vR 1), some (vI k), some (vI t), some (vI (wst w t i).1), some (vI (wst w t i).2), some (vI (i : Int)), none] [] M 0 0 Q) (n := w 0 0) ?_ ?_ 0 (Nat.zero_le _)
  · refine bX8_worst_36 _ _ _ _ _ hX.1 ⟨fun _ => ?_, fun h => absurd h (by omega)⟩
    exact kk
  · intro i hi ih
    have h2i := one_lt hi
    have hf := set_lt hW (fol_lt hW h2i)
    refine bX8_worst_36 _ _ _ _ _ hX.1 ⟨fun h => absurd h (by omega), fun _ => ?_⟩
    rw [bit_n (by omega) (by omega)]
    have ew : wst w t (i + 1) = if t.testBit i = true ∧ (wst w t i).2 < (wc w t i : Int) then ((i : Int), (wc w t i : Int)) else wst w t i := rfl
    rw [ew] at ih
    cases hb : t.testBit i
    · rw [hb, if_neg (by simp)] at ih
      exact ⟨fun h => absurd rfl h, fun _ => ⟨⟨by omega, by omega⟩, ih⟩⟩
    · rw [hb] at ih
      refine ⟨fun _ => ?_, fun h => absurd h (by decide)⟩
      rw [ishl_1 (by omega)]
      refine ok_followersOf hX.1 hX.2.2.1 hW h2i ⟨_, rfl, hX.1, ?_⟩
      rw [iand_n (by omega), ind_n (and_lt (by omega))]
      have hnd : nd (fol w (2 ^ i) &&& t) (2 ^ i) < 1024 := nd_lt (k := 10) (and_lt hf)
      refine ok_bitCount hnd ⟨_, rfl, hX.1, fun hle => ⟨⟨by omega, by omega⟩, ?_⟩, fun hgt => ⟨⟨by omega, by omega⟩, ?_⟩⟩
      · rw [if_neg (fun z => by have := z.2; unfold wc at this; omega)] at ih; exact ih
      · rw [if_pos ⟨rfl, by unfold wc; omega⟩] at ih; exact ih
theorem ok9_worst {k : Int} (hd : 3 ≤ d) (hX : MIv M w s) (hP : PIv w s) (kk : Q (some (vI (aWorst w s k))) M) : Ok G mX9_worst d 0 0 [vR 96, vI k] M Q := by
  obtain ⟨d, rfl⟩ : ∃ e, d = e + 1 := ⟨d - 1, by omega⟩
  refine Ok_of rfl (Nat.le_of_ble_eq_true rfl) rfl ?_
  unfold aWorst at kk
  have hW := hP.1
  have h10 := hW.1.1
  have hpw := pow_le hW
  refine bX9_worst_0 _ hX.1 (ok_in ⟨_, rfl, hX.1, ?_⟩)
  rcases Classical.em (¬ (0 ≤ k ∧ k ≤ 1)) with hc | hc
  · rw [if_neg hc] at kk ⊢
    exact ⟨fun z => absurd rfl z, fun _ => kk⟩
  have hc : 0 ≤ k ∧ k ≤ 1 := by omega
  rw [if_pos hc] at kk ⊢
  refine ⟨fun _ => ok9_thereIn (base := 0) (by omega) hX.1 hX.2.1 hW hP.2.1 hX.2.2 (by decide) ⟨_, rfl, hX.1, ?_⟩, fun z => absurd z (by decide)⟩
  have ht := thr_lt (w := w) (g := goneS s)
  generalize thr w (goneS s) = t at *
  have e0 := hX.2.1.1.1
  refine down (fun i => Wp G mX9_worst (d + 1) 0 0 28 [some (vR 96), some (vI k), some (vI t), some (vI (wst w t i).1), some (vI (wst w t i).2), some (vI (i : Int)), none] [] M 0 0 Q) (n := w 0 0) ?_ ?_ 0 (Nat.zero_le _)
  · exact bX9_worst_28 _ _ _ _ _ hX.1 ⟨fun _ => kk, fun h => absurd h (by omega)⟩
  · intro i hi ih
    have h2i := one_lt hi
    have hf := set_lt hW (fol_lt hW h2i)
    have hge := wst_ge (w := w) (t := t) i
    refine bX9_worst_28 _ _ _ _ _ hX.1 ⟨fun h => absurd h (by omega), fun _ => ok_has (by omega) (by omega) ⟨_, rfl, hX.1, ?_⟩⟩
    have ew : wst w t (i + 1) = if t.testBit i = true ∧ (wst w t i).2 < (wc w t i : Int) then ((i : Int), (wc w t i : Int)) else wst w t i := rfl
    rw [ew] at ih
    cases hb : t.testBit i
    · rw [hb, if_neg (by simp)] at ih
      refine ⟨fun _ => ⟨⟨by omega, by omega⟩, ?_⟩, fun h => absurd rfl h⟩
      rw [if_pos hge, if_pos hge]
      exact ih
    · rw [hb] at ih
      refine ⟨fun h => absurd h (by decide), fun _ => ?_⟩
      rw [ishl_1 (by omega)]
      refine ok9_followsOf (by omega) hX.1 hX.2.1 hW h2i ⟨_, rfl, hX.1, ?_⟩
      rw [iand_n (by omega), ind_n (and_lt (by omega))]
      have hnd : nd (fol w (2 ^ i) &&& t) (2 ^ i) < 1024 := nd_lt (k := 10) (and_lt hf)
      refine ok_bits (by omega) ⟨_, rfl, hX.1, ⟨by omega, by omega⟩, ?_⟩
      by_cases hlt : (wst w t i).2 < (wc w t i : Int)
      · rw [if_pos ⟨rfl, hlt⟩] at ih
        unfold wc at hlt ih
        rw [if_neg (by omega), if_neg (by omega)]
        exact ih
      · rw [if_neg (fun z => hlt z.2)] at ih
        unfold wc at hlt
        rw [if_pos (by omega), if_pos (by omega)]
        exact ih
theorem bck_s {g t n : Nat} : bck w g t (n + 1) = bck w g t n ||| (if g.testBit n && (fol w (2 ^ n)).testBit t then 2 ^ n else 0) := rfl
theorem ok8_back {t : Int} (hd : 3 ≤ d) (hX : XIv M w s) (hP : PIv w s) (kk : Q (some (vI (aBack w s t))) M) : Ok G mX8_back d 0 0 [vR 1, vI t] M Q := by
  obtain ⟨d, rfl⟩ : ∃ e, d = e + 1 := ⟨d - 1, by omega⟩
  refine Ok_of rfl (Nat.le_of_ble_eq_true rfl) rfl ?_
  unfold aBack at kk
  have hW := hP.1
  have h10 := hW.1.1
  have hpw := pow_le hW
  refine bX8_back_0 _ hX.1 (ok8_isThing hX (fun h => ⟨_, rfl, hX.1, fun _ => ?_, fun z => absurd z (by decide)⟩) (fun h => ⟨_, rfl, hX.1, fun z => absurd rfl z, fun _ => by rwa [if_neg h] at kk⟩))
  rw [if_pos h] at kk
  obtain ⟨t, rfl⟩ := nat_of h.1
  rw [Int.toNat_natCast] at kk
  refine ok_gone rfl hX.1 hX.2.2.2 hP.sb ⟨_, rfl, hX.1, ?_⟩
  have hg := set_lt hW (goneS_lt' hP.2.1)
  generalize goneS s = g at *
  have e0 := hX.2.1.1 0 (by decide)
  refine down (fun i => Wp G mX8_back (d + 1) 0 0 23 [some (vR 1), some (vI t), some (vI g), some (vI (bck w g t i : Nat)), some (vI (i : Int)), none] [] M 0 0 Q) (n := w 0 0) ?_ ?_ 0 (Nat.zero_le _)
  · exact bX8_back_23 _ _ _ _ hX.1 ⟨fun _ => kk, fun h => absurd h (by omega)⟩
  · intro i hi ih
    have h2i := one_lt hi
    have hf := set_lt hW (fol_lt hW h2i)
    have hbl : bck w g t i < 2 ^ 10 := mk_lt (by omega)
    rw [bck_s] at ih
    refine bX8_back_23 _ _ _ _ hX.1 ⟨fun h => absurd h (by omega), fun _ => ?_⟩
    rw [bit_n (by omega) (by omega), ishl_1 (by omega)]
    cases hb : g.testBit i
    · rw [hb] at ih
      refine ⟨fun _ => ⟨⟨by omega, by omega⟩, ?_⟩, fun h => absurd rfl h⟩
      rw [Bool.false_and, if_neg (by decide), Nat.or_zero] at ih
      exact ih
    · rw [hb] at ih
      refine ⟨fun h => absurd h (by decide), fun _ => ok_followersOf hX.1 hX.2.2.1 hW h2i ⟨_, rfl, hX.1, ?_⟩⟩
      rw [bit_n (by omega) (by omega), ior_n (by omega) (by omega)]
      cases hb2 : (fol w (2 ^ i)).testBit t
      · rw [hb2] at ih
        refine ⟨fun _ => ⟨⟨by omega, by omega⟩, ?_⟩, fun h => absurd h (by decide)⟩
        rw [Bool.and_false, if_neg (by decide), Nat.or_zero] at ih
        exact ih
      · rw [hb2] at ih
        exact ⟨fun h => absurd rfl h, fun _ => ⟨⟨by omega, by omega⟩, ih⟩⟩
theorem ok9_back {t : Int} (hd : 3 ≤ d) (hX : MIv M w s) (hP : PIv w s) (kk : Q (some (vI (aBack w s t))) M) : Ok G mX9_back d 0 0 [vR 96, vI t] M Q := by
  obtain ⟨d, rfl⟩ : ∃ e, d = e + 1 := ⟨d - 1, by omega⟩
  refine Ok_of rfl (Nat.le_of_ble_eq_true rfl) rfl ?_
  unfold aBack at kk
  have hW := hP.1
  have h10 := hW.1.1
  have hpw := pow_le hW
  refine bX9_back_0 _ hX.1 (ok9_isThing (by omega) hX hW (fun h => ⟨_, rfl, hX.1, fun _ => ?_, fun z => absurd z (by decide)⟩) (fun h => ⟨_, rfl, hX.1, fun z => absurd rfl z, fun _ => by rwa [if_neg h] at kk⟩))
  rw [if_pos h] at kk
  obtain ⟨t, rfl⟩ := nat_of h.1
  rw [Int.toNat_natCast] at kk
  refine ok9_goneIn (base := 0) hX.1 hX.2.1 hW hP.2.1 hX.2.2 (by decide) ⟨_, rfl, hX.1, ?_⟩
  have hg := set_lt hW (goneS_lt' hP.2.1)
  generalize goneS s = g at *
  have e0 := hX.2.1.1.1
  refine down (fun i => Wp G mX9_back (d + 1) 0 0 21 [some (vR 96), some (vI t), some (vI g), some (vI (bck w g t i : Nat)), some (vI (i : Int))] [] M 0 0 Q) (n := w 0 0) ?_ ?_ 0 (Nat.zero_le _)
  · exact bX9_back_21 _ _ _ _ hX.1 ⟨fun _ => kk, fun h => absurd h (by omega)⟩
  · intro i hi ih
    have h2i := one_lt hi
    have hf := set_lt hW (fol_lt hW h2i)
    have hbl : bck w g t i < 2 ^ 10 := mk_lt (by omega)
    rw [bck_s] at ih
    refine bX9_back_21 _ _ _ _ hX.1 ⟨fun h => absurd h (by omega), fun _ => ok_has (by omega) (by omega) ⟨_, rfl, hX.1, ?_⟩⟩
    have i0 : iorv ((bck w g t i : Nat) : Int) 0 = ((bck w g t i : Nat) : Int) := by
      rw [show (0 : Int) = ((0 : Nat) : Int) from rfl, ior_n (by omega) (by decide), Nat.or_zero]
    rw [ishl_1 (by omega), i0]
    cases hb : g.testBit i
    · rw [hb] at ih
      refine ⟨fun _ => ⟨⟨by omega, by omega⟩, ?_⟩, fun h => absurd rfl h⟩
      rw [Bool.false_and, if_neg (by decide), Nat.or_zero] at ih
      exact ih
    · rw [hb] at ih
      refine ⟨fun h => absurd h (by decide), fun _ => ok9_followsOf (by omega) hX.1 hX.2.1 hW h2i ⟨_, rfl, hX.1, ok_has (by omega) (by omega) ⟨_, rfl, hX.1, ⟨by omega, by omega⟩, ?_⟩⟩⟩
      cases hb2 : (fol w (2 ^ i)).testBit t
      · rw [hb2] at ih
        rw [Bool.and_false, if_neg (by decide), Nat.or_zero] at ih
        rw [if_pos (by rfl), i0]
        exact ih
      · rw [hb2] at ih
        rw [if_neg (by decide), ior_n (by omega) (by omega)]
        exact ih
end QUERC
