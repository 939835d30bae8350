/-! ===== both sides with their pasts ===== -/
def XF (M : MM) (w s : WT) (n : Nat) (f : Nat → WT) (k : Nat) (g : Nat → WT) : Prop := XIv M w s ∧ PV M 43 n f ∧ PV M 77 k g
def MF (M : MM) (w s : WT) (n : Nat) (f : Nat → WT) (k : Nat) (g : Nat → WT) : Prop := MIv M w s ∧ PMv M n f k g
/-- what the acts leave alone: the text, the worlds, the reference -/
def ChX (M M' : MM) : Prop := M'.1 = M.1 ∧ (∀ q j, q ≠ 44 → q ≠ 78 → gR M' q j = gR M q j) ∧ ∀ q j, (q < 35 ∨ 95 < q) → gI M' q j = gI M q j
theorem ChX.rf {M : MM} : ChX M M := ⟨rfl, fun _ _ _ _ => rfl, fun _ _ _ => rfl⟩
theorem ChX.tr {A B C : MM} (h1 : ChX A B) (h2 : ChX B C) : ChX A C := ⟨h2.1.trans h1.1, fun q j a b => (h2.2.1 q j a b).trans (h1.2.1 q j a b), fun q j h => (h2.2.2 q j h).trans (h1.2.2 q j h)⟩
theorem ChX.pi {A B : MM} {p : Nat} (hk : kd p = 2) (h : ChP p A B) : ChX A B := by
  have hl := ln_pile hk
  exact ⟨h.1, fun q j a b => h.2.1 q j (by omega), fun q j hq => h.2.2 q j (by unfold Ppi; omega)⟩
theorem ChX.ch {P : Nat → Prop} {A B : MM} (h : Ch P A B) (hp : ∀ q, P q → 35 ≤ q ∧ q ≤ 95) : ChX A B := ⟨h.1, fun q j _ _ => by unfold gR; rw [h.2.1], fun q j hq => h.2.2 q j fun z => by have := hp q z; omega⟩
theorem XIv.cx {A B : MM} {w s t : WT} (h : XIv A w s) (c : ChX A B) (hS : ShX B) (hV : SV B 35 t) : XIv B w t := by
  have hk := k7_at (xlaid h.1)
  have hg : gR B 1 2 = gR A 1 2 := c.2.1 1 2 (by decide) (by decide)
  refine ⟨hS, ?_, h.2.2.1.of fun q hq j => c.2.2 q j (by unfold Ptb at hq; omega), hV⟩
  rw [hg]
  exact h.2.1.of fun q hq j => c.2.2 q j (by unfold Pwo at hq; omega)
theorem PV.eq {A B : MM} {p n : Nat} {f : Nat → WT} (hk : kd p = 2) (h : PV A p n f) (hr : ∀ i, gR B (p + 1) i = gR A (p + 1) i) (hi : ∀ q j, Ppi p q → gI B q j = gI A q j) : PV B p n f := by
  obtain ⟨⟨a1, a2⟩, a3, a4, a5⟩ := h
  have hl := ln_pile hk
  refine ⟨⟨fun i hi2 => by rw [hr]; exact a1 i hi2, fun i j b1 b2 b3 => by rw [hr, hr]; exact a2 i j b1 b2 b3⟩, (hi p 1 (Or.inl rfl)).trans a3, a4, fun i hi2 => ?_⟩
  rw [hr]
  have hq := a1 i (by omega)
  exact (a5 i hi2).eq fun r j hrr => hi r j (by unfold Pst at hrr; unfold Ppi; omega)
section FULL
variable {G : GG} {M : MM} {d : Nat} {Q : Option AV → MM → Prop} {w s : WT} {n k : Nat} {f g : Nat → WT}
theorem XF.now {M' : MM} {t : WT} (h : XF M w s n f k g) (c : Ch (Pst 35) M M') (hV : SV M' 35 t) : XF M' w t n f k g ∧ ChX M M' := by
  have cx : ChX M M' := ChX.ch c fun q hq => by unfold Pst at hq; omega
  have hr : ∀ q j, gR M' q j = gR M q j := fun q j => by unfold gR; rw [c.2.1]
  refine ⟨⟨h.1.cx cx (h.1.1.ch c) hV, h.2.1.eq rfl (fun i => hr 44 i) fun q j hq => c.2.2 q j ?_, h.2.2.eq rfl (fun i => hr 78 i) fun q j hq => c.2.2 q j ?_⟩, cx⟩
  · unfold Ppi at hq; unfold Pst; omega
  · unfold Ppi at hq; unfold Pst; omega
theorem ok8_push (hd : 1 ≤ d) (h : XF M w s n f k g) (kk : ∀ M', XF M' w s (pshn n 8) (psh n 8 f s) k g → ChX M M' → Q none M') : Ok G mX2_push d 0 0 [vR 43, vR 35] M Q := by
  refine ok_push hd rfl h.1.1 h.2.1 h.1.2.2.2 fun M' hS' c hP' => kk M' ⟨h.1.cx (ChX.pi rfl c) hS' (h.1.2.2.2.eq fun r j hr => c.2.2 r j ?_), hP', h.2.2.eq rfl (fun i => c.2.1 78 i (by decide)) fun q j hq => c.2.2 q j ?_⟩ (ChX.pi rfl c)
  · have : ln (43 + 1) = 8 := rfl
    unfold Pst at hr; unfold Ppi; omega
  · have e1 : ln (43 + 1) = 8 := rfl
    have e2 : ln (77 + 1) = 2 := rfl
    unfold Ppi at hq ⊢; omega
theorem ok8_pushK (hd : 1 ≤ d) (h : XF M w s n f k g) (kk : ∀ M', XF M' w s n f (pshn k 2) (psh k 2 g s) → ChX M M' → Q none M') : Ok G mX2_push d 0 0 [vR 77, vR 35] M Q := by
  refine ok_push hd rfl h.1.1 h.2.2 h.1.2.2.2 fun M' hS' c hP' => kk M' ⟨h.1.cx (ChX.pi rfl c) hS' (h.1.2.2.2.eq fun r j hr => c.2.2 r j ?_), h.2.1.eq rfl (fun i => c.2.1 44 i (by decide)) fun q j hq => c.2.2 q j ?_, hP'⟩ (ChX.pi rfl c)
  · have : ln (77 + 1) = 2 := rfl
    unfold Pst at hr; unfold Ppi; omega
  · have e1 : ln (43 + 1) = 8 := rfl
    have e2 : ln (77 + 1) = 2 := rfl
    unfold Ppi at hq ⊢; omega
def bindS (s : WT) (b r : Nat) : WT := fun j c => if j = 0 ∧ c = b then r else if j = 1 ∧ c = b then 0 else s j c
theorem SV.bind {b r : Nat} {p : Nat} (hb : b < 4) (h : SV M p s) : SV (stI (stI M (p + 1) b (r : Nat)) (p + 2) b 0) p (bindS s b r) := by
  refine ⟨fun c hc => ⟨?_, ?_, ?_⟩, ?_⟩
  · rw [gI_ne _ _ (by omega), gI_st]
    unfold bindS
    by_cases e : c = b
    · rw [if_pos ⟨rfl, e⟩, if_pos ⟨rfl, e⟩]
    · rw [if_neg (fun z => e z.2), if_neg (fun z => e z.2), if_neg (fun z => e z.2)]; exact (h.1 c hc).1
  · rw [gI_st, gI_ne _ _ (by omega)]
    unfold bindS
    by_cases e : c = b
    · rw [if_pos ⟨rfl, e⟩, if_neg (by omega), if_pos ⟨rfl, e⟩]; rfl
    · rw [if_neg (fun z => e z.2), if_neg (by omega), if_neg (fun z => e z.2)]; exact (h.1 c hc).2.1
  · rw [gI_ne _ _ (by omega), gI_ne _ _ (by omega)]
    unfold bindS
    rw [if_neg (by omega), if_neg (by omega)]; exact (h.1 c hc).2.2
  · rw [gI_ne _ _ (by omega), gI_ne _ _ (by omega)]
    unfold bindS
    rw [if_neg (by omega), if_neg (by omega)]; exact h.2
theorem ok8_bind {b a : Int} (hd : 4 ≤ d) (h : XF M w s n f k g) (hP : PIv w s)
    (k0 : ¬ ((0 ≤ b ∧ b < w 0 3) ∧ isS w a) → Q (some (vI (-1))) M)
    (k2 : ((0 ≤ b ∧ b < w 0 3) ∧ isS w a) → ¬ (s 0 b.toNat = 0 ∧ sub a.toNat (thr w (goneS s)) ∧ w 7 b.toNat ≤ str w a.toNat) → Q (some (vI (-2))) M)
    (k1 : ((0 ≤ b ∧ b < w 0 3) ∧ isS w a) → (s 0 b.toNat = 0 ∧ sub a.toNat (thr w (goneS s)) ∧ w 7 b.toNat ≤ str w a.toNat) → ∀ M', XF M' w (bindS s b.toNat a.toNat) (pshn n 8) (psh n 8 f s) k g → ChX M M' → Q (some (vI (str w a.toNat : Nat))) M') : Ok G mX8_bind d 0 0 [vR 1, vI b, vI a] M Q := by
  obtain ⟨d, rfl⟩ : ∃ e, d = e + 1 := ⟨d - 1, by omega⟩
  refine Ok_of rfl (Nat.le_of_ble_eq_true rfl) rfl ?_
  have hX := h.1
  have hS := hX.1
  have hW := hP.1
  have h4 := hW.1.2.2.2.1
  have hpw := pow_le hW
  refine bX8_bind_0 _ _ hS (ok8_isBeast hX (fun hb => ⟨_, rfl, hS, fun z => absurd z (by decide), fun _ => ok8_isSet hX (fun ha => ⟨_, rfl, hS, fun _ => ?_, fun z => absurd z (by decide)⟩) (fun ha => ⟨_, rfl, hS, fun z => absurd rfl z, fun _ => k0 fun z => ha z.2⟩)⟩) (fun hb => ⟨_, rfl, hS, fun _ => k0 fun z => hb z.1, fun z => absurd rfl z⟩))
  have k2 := k2 ⟨hb, ha⟩
  have k1 := k1 ⟨hb, ha⟩
  obtain ⟨b, rfl⟩ := nat_of hb.1
  obtain ⟨a, rfl⟩ := nat_of ha.1
  rw [Int.toNat_natCast, Int.toNat_natCast] at k2 k1
  have hal : a < 2 ^ w 0 0 := by unfold isS at ha; omega
  have hb3 : b < w 0 3 := by omega
  refine ok_gone rfl hS hX.2.2.2 hP.sb ⟨_, rfl, hS, ok_thereBesides (by omega) hS hX.2.2.1 hW (goneS_lt' hP.2.1) ⟨_, rfl, hS, ok_isBound (by omega) rfl hS ⟨_, rfl, hS, ?_⟩⟩⟩
  rw [if_pos (show (0 : Int) ≤ b ∧ (b : Int) < 4 by omega), Int.toNat_natCast, (hX.2.2.2.1 b (by omega)).1, ind_n (by omega)]
  refine ⟨fun z => k2 fun y => ?_, fun z => ⟨fun z2 => k2 fun y => ?_, fun z2 => ok_strengthOf hS hX.2.2.1 hW hal ⟨_, rfl, hS, ok_pullOfBeast (by omega) (xlaid hS) hS hX.2.1 hW hb3 ⟨_, rfl, hS, fun hle => ?_, fun hgt => k2 fun y => by omega⟩⟩⟩⟩
  · rw [y.1] at z; exact absurd rfl z
  · rw [sub_nd.mpr y.2.1] at z2; exact absurd z2 (by decide)
  · have hs0 : s 0 b = 0 := by
      rcases Classical.em ((s 0 b : Int) = 0) with q | q
      · omega
      · rw [if_neg q] at z; exact absurd z (by decide)
    have hst : sub a (thr w (goneS s)) := by
      rcases Classical.em (((nd a (thr w (goneS s)) : Nat) : Int) = 0) with q | q
      · exact sub_nd.mp (by omega)
      · exact absurd (if_neg q) z2
    refine ok8_push (by omega) h fun M1 h1 c1 => ⟨rfl, h1.1.1, ok_tie rfl h1.1.1 (by omega) (by omega) ⟨rfl, ?_, ?_⟩⟩
    · exact h1.1.1.of rfl
    · rw [Int.toNat_natCast]
      have c2 : Ch (Pst 35) M1 (stI (stI M1 (35 + 1) b (a : Int)) (35 + 2) b 0) := (Ch.rf.st (Or.inr (Or.inl rfl))).st (Or.inr (Or.inr (Or.inl rfl)))
      obtain ⟨h2, c3⟩ := h1.now c2 (SV.bind (r := a) (by omega) h1.1.2.2.2)
      exact ok_strengthOf h2.1.1 h2.1.2.2.1 hW hal ⟨_, rfl, h2.1.1, k1 ⟨hs0, hst, by omega⟩ _ h2 (c1.tr c3)⟩
end FULL
