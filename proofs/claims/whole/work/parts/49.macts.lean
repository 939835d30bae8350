/-! ===== bind, loosen, days, undo, keep, restore of the reference ===== -/
section MACTS
variable {G : GG} {M : MM} {d : Nat} {Q : Option AV → MM → Prop} {w s : WT} {n k : Nat} {f g : Nat → WT}
theorem MF.now {M' : MM} {t : WT} (h : MF M w s n f k g) (c : ChR 0 M M') (hV : RV M' 0 t) : MF M' w t n f k g ∧ ChM M M' := by
  obtain ⟨⟨a1, a2, a3⟩, ⟨p1, p2, p3, p4⟩, p5, p6⟩ := h
  refine ⟨⟨⟨c.sh a1, c.mw a2, hV⟩, ⟨(c.2.2.1 96 1 (by decide)).trans p1, p2, (c.2.2.1 96 2 (by decide)).trans p3, p4⟩, fun i hi => (p5 i hi).eq fun j h1 _ => c.2.2.2 j (by omega), fun i hi => (p6 i hi).eq fun j h1 _ => c.2.2.2 j (by omega)⟩, ChM.cr c⟩
theorem ok9_push (hd : 1 ≤ d) (h : MF M w s n f k g) (kk : ∀ M', MF M' w s (pshn n 8) (psh n 8 f s) k g → ChM M M' → Q none M') : Ok G mX9_keepPast d 0 0 [vR 96] M Q :=
  ok9_keepPast hd h.1.1 h.2 h.1.2.2 fun M' c hP hR => kk M' ⟨⟨c.sh h.1.1, c.mw h.1.2.1, hR⟩, hP⟩ c
theorem RV.bind {b r : Nat} (hb : b < 4) (h : RV M 0 s) : RV (stI (stI M 97 (0 + b) (r : Nat)) 97 (0 + 4 + b) 0) 0 (bindS s b r) := by
  refine ⟨fun c hc => ⟨?_, ?_, ?_⟩, ?_⟩
  · rw [gI_ne _ _ (by omega), gI_st]
    unfold bindS
    by_cases e : c = b
    · rw [if_pos ⟨rfl, by omega⟩, if_pos ⟨rfl, e⟩]
    · rw [if_neg (by omega), if_neg (fun z => e z.2), if_neg (fun z => e z.2)]; exact (h.1 c hc).1
  · rw [gI_st]
    unfold bindS
    by_cases e : c = b
    · rw [if_pos ⟨rfl, by omega⟩, if_neg (by omega), if_pos ⟨rfl, e⟩]; rfl
    · rw [if_neg (by omega), gI_ne _ _ (by omega), if_neg (by omega), if_neg (fun z => e z.2)]; exact (h.1 c hc).2.1
  · rw [gI_ne _ _ (by omega), gI_ne _ _ (by omega)]
    unfold bindS
    rw [if_neg (by omega), if_neg (by omega)]; exact (h.1 c hc).2.2
  · rw [gI_ne _ _ (by omega), gI_ne _ _ (by omega)]
    unfold bindS
    rw [if_neg (by omega), if_neg (by omega)]; exact h.2
theorem ok9_bind {b a : Int} (hd : 4 ≤ d) (h : MF M w s n f k g) (hP : PIv w s)
    (k0 : ¬ ((0 ≤ b ∧ b < w 0 3) ∧ isS w a) → Q (some (vI (-1))) M)
    (k2 : ((0 ≤ b ∧ b < w 0 3) ∧ isS w a) → ¬ (s 0 b.toNat = 0 ∧ sub a.toNat (thr w (goneS s)) ∧ w 7 b.toNat ≤ str w a.toNat) → Q (some (vI (-2))) M)
    (k1 : ((0 ≤ b ∧ b < w 0 3) ∧ isS w a) → (s 0 b.toNat = 0 ∧ sub a.toNat (thr w (goneS s)) ∧ w 7 b.toNat ≤ str w a.toNat) → ∀ M', MF M' w (bindS s b.toNat a.toNat) (pshn n 8) (psh n 8 f s) k g → ChM M M' → Q (some (vI (str w a.toNat : Nat))) M') : Ok G mX9_bind d 0 0 [vR 96, vI b, vI a] M Q := by
  obtain ⟨d, rfl⟩ : ∃ e, d = e + 1 := ⟨d - 1, by omega⟩
  refine Ok_of rfl (Nat.le_of_ble_eq_true rfl) rfl ?_
  have hX := h.1
  have hS := hX.1
  have hW := hP.1
  have h4 := hW.1.2.2.2.1
  have hpw := pow_le hW
  refine bX9_bind_0 _ _ hS (ok9_isBeast (by omega) hX hW (fun hb => ⟨_, rfl, hS, fun z => absurd z (by decide), fun _ => ok9_isSet (by omega) hX hW (fun ha => ⟨_, rfl, hS, fun _ => ?_, fun z => absurd z (by decide)⟩) (fun ha => ⟨_, rfl, hS, fun z => absurd rfl z, fun _ => k0 fun z => ha z.2⟩)⟩) (fun hb => ⟨_, rfl, hS, fun _ => k0 fun z => hb z.1, fun z => absurd rfl z⟩))
  have k2 := k2 ⟨hb, ha⟩
  have k1 := k1 ⟨hb, ha⟩
  obtain ⟨b, rfl⟩ := nat_of hb.1
  obtain ⟨a, rfl⟩ := nat_of ha.1
  rw [Int.toNat_natCast, Int.toNat_natCast] at k2 k1
  have hal : a < 2 ^ w 0 0 := by unfold isS at ha; omega
  have hb3 : b < w 0 3 := by omega
  have er : (0 + (b : Int)).toNat = 0 + b := by omega
  rw [er, (hX.2.2.1 b (by omega)).1]
  refine ⟨⟨by omega, by omega⟩, ⟨by omega, by omega⟩, fun z => k2 fun y => by omega, fun z => ok9_thereIn (base := 0) (by omega) hS hX.2.1 hW hP.2.1 hX.2.2 (by decide) ⟨_, rfl, hS, ?_⟩⟩
  rw [ind_n (by omega)]
  refine ⟨fun z2 => k2 fun y => z2 (by rw [sub_nd.mpr y.2.1]; rfl), fun z2 => ok9_strengthOf (by omega) hS hX.2.1 hW (by omega) ⟨_, rfl, hS, ⟨by omega, by omega⟩, ?_⟩⟩
  rw [Int.toNat_natCast, hX.2.1.2.2.2.1 b hb3]
  refine ⟨fun hle => ?_, fun hgt => k2 fun y => by omega⟩
  refine ok9_push (by omega) h fun M1 h1 c1 => ⟨rfl, h1.1.1, ok9_bindIn (base := 0) h1.1.1 (by decide) (by omega) ?_⟩
  have c2 : ChR 0 M1 (stI (stI M1 97 (0 + b) (a : Int)) 97 (0 + 4 + b) 0) := (ChR.rf.st (by omega) (by omega)).st (by omega) (by omega)
  obtain ⟨h2, c3⟩ := h1.now c2 (RV.bind (r := a) (by omega) h1.1.2.2)
  exact ⟨rfl, h2.1.1, ok9_strengthOf (by omega) h2.1.1 h2.1.2.1 hW (by omega) ⟨_, rfl, h2.1.1, k1 ⟨by omega, sub_nd.mp (by omega), by omega⟩ _ h2 (c1.tr c3)⟩⟩
theorem ok9_loosen {b : Int} (hd : 3 ≤ d) (h : MF M w s n f k g) (hP : PIv w s)
    (k0 : ¬ (0 ≤ b ∧ b < w 0 3) → Q (some (vI (-1))) M) (k2 : (0 ≤ b ∧ b < w 0 3) → s 0 b.toNat = 0 → Q (some (vI (-2))) M)
    (k1 : (0 ≤ b ∧ b < w 0 3) → s 0 b.toNat ≠ 0 → ∀ M', MF M' w (bindS s b.toNat 0) (pshn n 8) (psh n 8 f s) k g → ChM M M' → Q (some (vI (pc (s 0 b.toNat) 10 : Nat))) M') : Ok G mX9_loosen d 0 0 [vR 96, vI b] M Q := by
  obtain ⟨d, rfl⟩ : ∃ e, d = e + 1 := ⟨d - 1, by omega⟩
  refine Ok_of rfl (Nat.le_of_ble_eq_true rfl) rfl ?_
  have hX := h.1
  have hW := hP.1
  have h4 := hW.1.2.2.2.1
  refine bX9_loosen_0 _ hX.1 (ok9_isBeast (by omega) hX hW (fun hb => ⟨_, rfl, hX.1, fun _ => ?_, fun z => absurd z (by decide)⟩) (fun hb => ⟨_, rfl, hX.1, fun z => absurd rfl z, fun _ => k0 hb⟩))
  have k2 := k2 hb
  have k1 := k1 hb
  obtain ⟨b, rfl⟩ := nat_of hb.1
  rw [Int.toNat_natCast] at k2 k1
  have hsl := set_lt hW (hP.2.1.1 b (by omega)).1
  have er : (0 + (b : Int)).toNat = 0 + b := by omega
  rw [er, (hX.2.2.1 b (by omega)).1]
  refine ⟨⟨by omega, by omega⟩, ⟨by omega, by omega⟩, fun z => ?_, fun z => k2 (by omega)⟩
  refine ok9_push (by omega) h fun M1 h1 c1 => ⟨rfl, h1.1.1, ⟨by omega, by omega⟩, ?_⟩
  rw [(h1.1.2.2.1 b (by omega)).1]
  refine ok_bits (by omega) ⟨_, rfl, h1.1.1, ok9_bindIn (base := 0) (x := 0) h1.1.1 (by decide) (by omega) ?_⟩
  have c2 : ChR 0 M1 (stI (stI M1 97 (0 + b) ((0 : Nat) : Int)) 97 (0 + 4 + b) 0) := (ChR.rf.st (by omega) (by omega)).st (by omega) (by omega)
  obtain ⟨h2, c3⟩ := h1.now c2 (RV.bind (r := 0) (by omega) h1.1.2.2)
  exact ⟨rfl, h2.1.1, k1 (by omega) _ h2 (c1.tr c3)⟩
theorem ok9_days {a : Int} (hd : 3 ≤ d) (h : MF M w s n f k g) (hP : PIv w s)
    (k0 : ¬ (1 ≤ a ∧ a ≤ 40) → Q (some (vI (-1))) M) (k2 : (1 ≤ a ∧ a ≤ 40) → ¬ (s 3 0 + a.toNat ≤ 999) → Q (some (vI (-2))) M)
    (k1 : (1 ≤ a ∧ a ≤ 40) → s 3 0 + a.toNat ≤ 999 → ∀ M', MF M' w (dyN w s a.toNat) (pshn n 8) (psh n 8 f s) k g → ChM M M' → Q (some (vI (esN w s a.toNat : Nat))) M') : Ok G mX9_days d 0 0 [vR 96, vI a] M Q := by
  obtain ⟨d, rfl⟩ : ∃ e, d = e + 1 := ⟨d - 1, by omega⟩
  refine Ok_of rfl (Nat.le_of_ble_eq_true rfl) rfl ?_
  have hX := h.1
  have hW := hP.1
  have hdy := hP.2.2
  refine bX9_days_0 _ hX.1 (ok_in ⟨_, rfl, hX.1, ?_⟩)
  rcases Classical.em (¬ (1 ≤ a ∧ a ≤ 40)) with hc | hc
  · rw [if_neg hc]
    exact ⟨fun z => absurd rfl z, fun _ => k0 hc⟩
  have hc : 1 ≤ a ∧ a ≤ 40 := by omega
  rw [if_pos hc]
  refine ⟨fun _ => ?_, fun z => absurd z (by decide)⟩
  have k2 := k2 hc
  have k1 := k1 hc
  obtain ⟨a, rfl⟩ := nat_of (show 0 ≤ a by omega)
  rw [Int.toNat_natCast] at k2 k1
  have e12 : gI M 97 12 = (s 3 0 : Nat) := hX.2.2.2
  rw [e12]
  refine ⟨⟨by omega, by omega⟩, fun z => ?_, fun z => k2 (by omega)⟩
  refine ok9_push (by omega) h fun M1 h1 c1 => ⟨rfl, h1.1.1, ?_⟩
  refine down (fun i => ∀ M', MF M' w (dyN w s i) (pshn n 8) (psh n 8 f s) k g → ChM M M' → Wp G mX9_days (d + 1) 0 0 40 [some (vR 96), some (vI a), some (vI (esN w s i : Nat)), some (vI (i : Int))] [] M' 0 0 Q) (n := a) ?_ ?_ 0 (Nat.zero_le _) M1 h1 c1
  · intro M' h2 c2
    exact bX9_days_40 _ _ _ h2.1.1 ⟨fun _ => k1 (by omega) M' h2 c2, fun z => absurd (Int.le_refl _) z⟩
  · intro i hi ih M' h2 c2
    have e3 := dyN_3 (w := w) (s := s) i
    have hle := esN_le (w := w) (s := s) i
    have hl2 := escS_le (w := w) (s := dyN w s i)
    refine bX9_days_40 _ _ _ h2.1.1 ⟨fun z => absurd z (by omega), fun _ => ok9_dayIn (base := 0) (by omega) h2.1.1 h2.1.2.1 hW h2.1.2.2 (dyN_SI hP.2.1 hW i) (by omega) (by decide) fun M3 c3 hV3 => ?_⟩
    obtain ⟨h4, c4⟩ := h2.now c3 hV3
    exact ⟨_, rfl, h4.1.1, ⟨by omega, by omega⟩, ⟨by omega, by omega⟩, ih M3 h4 (c2.tr c4)⟩
end MACTS
