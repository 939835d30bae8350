/-! ===== lay of the class ===== -/
theorem shx_stL {M : MM} {k x : Nat} (h : ShX M) (hk : k = 2 ∨ k = 3) (hx : kd x = 7) : ShX (stR M 1 k x) := by
  have e : ∀ q j, ¬ (q = 1 ∧ j = k) → gR (stR M 1 k x) q j = gR M q j := fun q j hq => gR_ne M x hq
  obtain ⟨a1, ⟨a2, a3, a4, a5⟩, a6, a7, a8, a9, a10, a11, a12, a13⟩ := h
  have n1 : ∀ q, kd q ≠ 8 → ∀ j, ¬ (q = 1 ∧ j = k) := fun q hq j z => hq (by rw [z.1]; rfl)
  refine ⟨fun j h1 h2 h3 => (e 1 j (by omega)).trans (a1 j h1 h2 h3), ⟨(e 2 0 (by omega)).trans a2, (e 4 0 (by omega)).trans a3, (e 4 1 (by omega)).trans a4, (e 94 1 (by omega)).trans a5⟩, fun j h1 h2 => (e 30 j (by omega)).trans (a6 j h1 h2), fun j h1 h2 => (e 87 j (by omega)).trans (a7 j h1 h2), fun q hq j h1 h2 => (e q j (n1 q (by omega) j)).trans (a8 q hq j h1 h2), fun q hq j h1 h2 => (e q j (n1 q (by omega) j)).trans (a9 q hq j h1 h2), fun q hq => (e q 0 (n1 q (by omega) 0)).trans (a10 q hq), ?_, ?_, fun q i hq hi => ?_⟩
  · rw [gR_st]
    split
    · exact hx
    · exact a11
  · rw [gR_st]
    split
    · exact hx
    · exact a12
  · rw [e q i (n1 q (by omega) i)]
    exact a13 q i hq hi
/-- the reference's places are left alone -/
def FrX (M M' : MM) : Prop := M'.1 = M.1 ∧ ∀ q j, 96 ≤ q → gI M' q j = gI M q j ∧ gR M' q j = gR M q j
theorem FrX.rf {M : MM} : FrX M M := ⟨rfl, fun _ _ _ => ⟨rfl, rfl⟩⟩
theorem FrX.tr {A B C : MM} (h1 : FrX A B) (h2 : FrX B C) : FrX A C := ⟨h2.1.trans h1.1, fun q j h => ⟨(h2.2 q j h).1.trans (h1.2 q j h).1, (h2.2 q j h).2.trans (h1.2 q j h).2⟩⟩
theorem FrX.ch {P : Nat → Prop} {A B : MM} (h : Ch P A B) (hp : ∀ q, P q → q < 96) : FrX A B := ⟨h.1, fun q j hq => ⟨h.2.2 q j fun z => by have := hp q z; omega, by unfold gR; rw [h.2.1]⟩⟩
theorem FrX.cx {A B : MM} (h : ChX A B) : FrX A B := ⟨h.1, fun q j hq => ⟨h.2.2 q j (by omega), h.2.1 q j (by omega) (by omega)⟩⟩
def s00 : WT := fun _ _ => 0
theorem s00_SI {w : WT} : SI w s00 := ⟨fun b _ => ⟨Nat.two_pow_pos _, fun _ => rfl, fun _ => rfl, fun h => absurd rfl h, Nat.le_refl _, Nat.le_refl _⟩, fun _ _ _ _ _ => Nat.zero_and 0⟩
theorem Prd_lt {p q : Nat} (hk : kd p = 7) (h : Prd p q) : q < 30 := by
  have := k7_at hk
  unfold Prd Pwo at h
  omega
section LAYX
variable {G : GG} {M : MM} {d : Nat} {Q : Option AV → MM → Prop} {L : Nat} {t : Nat → Int}
theorem ok8_layTheText (hd : 5 ≤ d) (hS : ShX M) (hT : TXv M L t) (hne : gR M 1 2 ≠ gR M 1 3) (hP1 : PVr M 43) (hP2 : PVr M 77)
    (k0 : ¬ lays t L → ∀ M', Ch (Prd (gR M 1 3)) M M' → Q (some (vI 0)) M')
    (k1 : lays t L → ∀ M', (∀ f g, XF M' (rdA t L).2 s00 0 f 0 g) → FrX M M' → TXv M' L t → gR M' 1 2 ≠ gR M' 1 3 → Q (some (vI 1)) M') : Ok G mX8_layTheText d 0 0 [vR 1] M Q := by
  obtain ⟨d, rfl⟩ : ∃ e, d = e + 1 := ⟨d - 1, by omega⟩
  refine Ok_of rfl (Nat.le_of_ble_eq_true rfl) rfl ?_
  have hkd := xdraft hS
  have hkl := xlaid hS
  have hW := rdW_ok (t := t) (L := L) (f := 200) (a := 0) w00_ok
  have hW : WOk (rdA t L).2 := hW
  refine bX8_layTheText_0 hS (ok4_readInto (by omega) hkd hS hT (fun M2 c e hw => ⟨_, rfl, hS.ch c, fun h => absurd rfl h, fun _ => ?_⟩) (fun M2 b c e => ⟨_, rfl, hS.ch c, fun _ => k0 (fun z => by rw [z.1] at e; cases e) M2 c, fun h => by omega⟩))
  have gr2 : ∀ q j, gR M2 q j = gR M q j := fun q j => by unfold gR; rw [c.2.1]
  rw [gr2 1 3, gr2 1 2, hw.1 0 (by decide), hw.1 3 (by decide)]
  refine ⟨fun h => k0 (fun z => by have := z.2.1; omega) M2 c, fun h1 => ⟨fun h2 => ?_, fun h => k0 (fun z => by have := z.2.2; omega) M2 c⟩⟩
  have hl : lays t L := ⟨e, by omega, by omega⟩
  have hS2 := hS.ch c
  rintro _ rfl
  have hS3 := shx_stL hS2 (Or.inl rfl) hkd
  refine ⟨hS3, ?_⟩
  rintro _ rfl
  have hS4 := shx_stL hS3 (Or.inr rfl) hkl
  refine ⟨hS4, ?_⟩
  generalize hA : stR (stR M2 1 2 (gR M 1 3)) 1 3 (gR M 1 2) = A at *
  have a1 : A.1 = M2.1 := by rw [← hA]; rfl
  have a2 : ∀ q j, gI A q j = gI M2 q j := fun q j => by rw [← hA]; rfl
  have a3 : ∀ q j, q ≠ 1 → gR A q j = gR M q j := fun q j hq => by rw [← hA, gR_ne _ _ (by omega), gR_ne _ _ (by omega), gr2]
  have a4 : gR A 1 2 = gR M 1 3 := by rw [← hA, gR_ne _ _ (by omega), gR_same]
  have a5 : gR A 1 3 = gR M 1 2 := by rw [← hA, gR_same]
  have hwA : CW A (gR M 1 3) (rdA t L).2 := hw.of fun q _ j => a2 q j
  have hp := k7_at hkd
  rw [a4]
  refine ok_fillFrom (by omega) hkd hS4 hwA hW fun B cB hTB => ⟨rfl, hS4.ch cB, ok_clear5 rfl (hS4.ch cB) fun C cC hVC => ⟨rfl, (hS4.ch cB).ch cC, ok_clear2 rfl ((hS4.ch cB).ch cC) ⟨rfl, ((hS4.ch cB).ch cC).of rfl, ok_clear2 rfl (((hS4.ch cB).ch cC).of rfl) ⟨rfl, (((hS4.ch cB).ch cC).of rfl).of rfl, ?_⟩⟩⟩⟩
  have hSE : ShX (stI (stI C 43 1 0) 77 1 0) := (((hS4.ch cB).ch cC).of rfl).of rfl
  have rE : ∀ q j, gR (stI (stI C 43 1 0) 77 1 0) q j = gR A q j := fun q j => by
    show C.2.2 q j = A.2.2 q j
    rw [cC.2.1, cB.2.1]
  have iE : ∀ q j, ¬ Ptb q → ¬ Pst 35 q → ¬ (q = 43 ∧ j = 1) → ¬ (q = 77 ∧ j = 1) → gI (stI (stI C 43 1 0) 77 1 0) q j = gI M2 q j := fun q j h1 h2 h3 h4 => by
    rw [gI_ne _ _ h4, gI_ne _ _ h3, cC.2.2 q j h2, cB.2.2 q j h1, a2]
  refine k1 hl _ (fun f g => ⟨⟨hSE, ?_, ?_, ?_⟩, ⟨⟨fun i hi => ?_, fun i j hi hj hij => ?_⟩, ?_, Nat.zero_le _, fun i hi => absurd hi (Nat.not_lt_zero i)⟩, ⟨⟨fun i hi => ?_, fun i j hi hj hij => ?_⟩, ?_, Nat.zero_le _, fun i hi => absurd hi (Nat.not_lt_zero i)⟩⟩) ⟨?_, fun q j hq => ⟨?_, ?_⟩⟩ ?_ ?_
  · rw [rE, a4]
    exact hw.of fun q hq j => iE q j (by unfold Pwo at hq; unfold Ptb; omega) (by unfold Pwo at hq; unfold Pst; omega) (by unfold Pwo at hq; omega) (by unfold Pwo at hq; omega)
  · refine hTB.of fun q hq j => ?_
    unfold Ptb at hq
    rw [gI_ne _ _ (by omega), gI_ne _ _ (by omega), cC.2.2 q j (by unfold Pst; omega)]
  · refine hVC.eq fun r j hr => ?_
    unfold Pst at hr
    rw [gI_ne _ _ (by omega), gI_ne _ _ (by omega)]
  · rw [rE, a3 _ _ (by decide)]; exact hP1.1 i hi
  · rw [rE, rE, a3 _ _ (by decide), a3 _ _ (by decide)]; exact hP1.2 i j hi hj hij
  · rw [gI_ne _ _ (by omega), gI_same]; rfl
  · rw [rE, a3 _ _ (by decide)]; exact hP2.1 i hi
  · rw [rE, rE, a3 _ _ (by decide), a3 _ _ (by decide)]; exact hP2.2 i j hi hj hij
  · rw [gI_same]; rfl
  · show C.1 = M.1
    rw [cC.1, cB.1, a1, c.1]
  · rw [iE q j (by unfold Ptb; omega) (by unfold Pst; omega) (by omega) (by omega)]
    exact c.2.2 q j fun z => by have := Prd_lt hkd z; omega
  · rw [rE, a3 q j (by omega)]
  · refine (hT.rd hkd c).of fun q j hq => iE q j (by unfold Ptb; omega) (by unfold Pst; omega) (by omega) (by omega)
  · rw [rE, rE, a4, a5]
    exact fun z => hne z.symm
theorem ok8_lay (hd : 6 ≤ d) (hS : ShX M) (hT : TXv M L t) (hne : gR M 1 2 ≠ gR M 1 3) (hP1 : PVr M 43) (hP2 : PVr M 77)
    (k0 : ¬ lays t L → ∀ M', Ch (Prd (gR M 1 3)) M M' → Q (some (vI (-2))) M')
    (k1 : lays t L → ∀ M', (∀ f g, XF M' (rdA t L).2 s00 0 f 0 g) → FrX M M' → TXv M' L t → gR M' 1 2 ≠ gR M' 1 3 → Q (some (vI ((rdA t L).2 0 0 : Nat))) M') : Ok G mX8_lay d 0 0 [vR 1] M Q := by
  obtain ⟨d, rfl⟩ : ∃ e, d = e + 1 := ⟨d - 1, by omega⟩
  refine Ok_of rfl (Nat.le_of_ble_eq_true rfl) rfl ?_
  refine bX8_lay_0 hS (ok8_layTheText (by omega) hS hT hne hP1 hP2 (fun h M' c => ⟨_, rfl, hS.ch c, k0 h M' c⟩) (fun h M' hX fr hT' hne' => ⟨_, rfl, (hX (fun _ => s00) (fun _ => s00)).1.1, ?_⟩))
  have := k1 h M' hX fr hT' hne'
  rw [if_neg (by decide), (hX (fun _ => s00) (fun _ => s00)).1.2.1.1 0 (by decide)]
  exact this
end LAYX
