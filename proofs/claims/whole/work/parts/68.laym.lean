/-! ===== lay of the reference ===== -/
/-- the class's places are left alone -/
def FrM (M M' : MM) : Prop := M'.1 = M.1 ∧ M'.2.2 = M.2.2 ∧ ∀ q j, q < 96 → gI M' q j = gI M q j
theorem FrM.rf {M : MM} : FrM M M := ⟨rfl, rfl, fun _ _ _ => rfl⟩
theorem FrM.tr {A B C : MM} (h1 : FrM A B) (h2 : FrM B C) : FrM A C := ⟨h2.1.trans h1.1, h2.2.1.trans h1.2.1, fun q j h => (h2.2.2 q j h).trans (h1.2.2 q j h)⟩
theorem FrM.ct {A B : MM} (h : ChT A B) : FrM A B := ⟨h.1, h.2.1, fun q j hq => h.2.2 q j (by omega)⟩
theorem FrM.ca {A B : MM} (h : ChA A B) : FrM A B := ⟨h.1, h.2.1, fun q j hq => h.2.2 q j (by omega)⟩
theorem FrM.cm {A B : MM} (h : ChM A B) : FrM A B := ⟨h.1, h.2.1, fun q j hq => h.2.2 q j (by omega)⟩
theorem FrM.cr {b : Nat} {A B : MM} (h : ChR b A B) : FrM A B := ⟨h.1, h.2.1, fun q j hq => h.2.2.1 q j (by omega)⟩
theorem FrM.ch {P : Nat → Prop} {A B : MM} (h : Ch P A B) (hp : ∀ q, P q → 96 ≤ q) : FrM A B := ⟨h.1, h.2.1, fun q j hq => h.2.2 q j fun z => by have := hp q z; omega⟩
theorem FrM.st {A B : MM} {p k : Nat} {x : Int} (h : FrM A B) (hp : 96 ≤ p) : FrM A (stI B p k x) := ⟨h.1, h.2.1, fun q j hq => (gI_ne B x (by omega)).trans (h.2.2 q j hq)⟩
theorem ChA.tm {A B : MM} {L : Nat} {t : Nat → Int} (h : ChA A B) (hT : TMv A L t) : TMv B L t := ⟨(h.2.2 96 4 (by omega)).trans hT.1, hT.2.1, fun i hi => (h.2.2 98 i (by omega)).trans (hT.2.2 i hi)⟩
theorem ChA.rc {A B : MM} {w : WT} (h : ChA A B) (hC : RC A w) : RC B w := ⟨(h.2.2 96 19 (by omega)).trans hC.1, (h.2.2 96 20 (by omega)).trans hC.2.1, (h.2.2 96 21 (by omega)).trans hC.2.2.1, (h.2.2 96 22 (by omega)).trans hC.2.2.2.1, (h.2.2 96 23 (by omega)).trans hC.2.2.2.2⟩
theorem ChT.mw {A B : MM} {w : WT} (h : ChT A B) (hw : MW A w) : MW B w := by
  obtain ⟨⟨a1, a2, a3, a4, a5⟩, b, c, d, e⟩ := hw
  have z := h.2.2
  refine ⟨⟨(z 96 5 (by omega)).trans a1, (z 96 9 (by omega)).trans a2, (z 96 10 (by omega)).trans a3, (z 96 13 (by omega)).trans a4, (z 96 15 (by omega)).trans a5⟩, fun t ht => ?_, fun i hi => ?_, fun b hb => (z 104 b (by omega)).trans (d b hb), fun x hx j hj => (z 105 _ (by omega)).trans (e x hx j hj)⟩
  · obtain ⟨b1, b2, b3⟩ := b t ht
    exact ⟨(z 99 t (by omega)).trans b1, (z 100 t (by omega)).trans b2, (z 101 t (by omega)).trans b3⟩
  · obtain ⟨c1, c2⟩ := c i hi
    exact ⟨(z 102 i (by omega)).trans c1, (z 103 i (by omega)).trans c2⟩
section LAYM
variable {G : GG} {M : MM} {d : Nat} {Q : Option AV → MM → Prop} {L : Nat} {t : Nat → Int} {w : WT}
theorem ok9_begin (hS : ShM M) (hw : MW M w) (kk : ∀ M', Ch (fun q => q = 96 ∨ q = 97) M M' → (∀ j, j ≠ 1 → j ≠ 2 → gI M' 96 j = gI M 96 j) → (∀ f g, MF M' w s00 0 f 0 g) → Q none M') : Ok G mX9_begin d 0 0 [vR 96] M Q := by
  refine Ok_of rfl (Nat.le_of_ble_eq_true rfl) rfl ?_
  refine bX9_begin_0 hS ?_
  refine down (fun i => ∀ M', Ch (fun q => q = 97) M M' → (∀ j, j < i → gI M' 97 j = 0) → Wp G mX9_begin d 0 0 2 [some (vR 96), some (vI (i : Int))] [] M' 0 0 Q) (n := 13) ?_ ?_ 0 (Nat.zero_le _) M Ch.rf (fun j hj => absurd hj (Nat.not_lt_zero j))
  · intro M' c h0
    refine bX9_begin_2 _ (hS.ch c) ⟨fun _ => ?_, fun h => absurd (by decide) h⟩
    rintro _ rfl _ rfl
    have cc0 : Ch (fun q => q = 96 ∨ q = 97) M M' := c.mono fun q hq => Or.inr hq
    have cc : Ch (fun q => q = 96 ∨ q = 97) M (stI (stI M' 96 1 0) 96 2 0) := (cc0.st (Or.inl rfl)).st (Or.inl rfl)
    have g97 : ∀ j, gI (stI (stI M' 96 1 0) 96 2 0) 97 j = gI M' 97 j := fun j => (gI_ne _ _ (by omega)).trans (gI_ne _ _ (by omega))
    have go : ∀ j, j ≠ 1 → j ≠ 2 → gI (stI (stI M' 96 1 0) 96 2 0) 96 j = gI M 96 j := fun j h1 h2 => ((gI_ne _ _ (by omega)).trans (gI_ne _ _ (by omega))).trans (c.2.2 96 j (by decide))
    have gq : ∀ q j, q ≠ 96 → q ≠ 97 → gI (stI (stI M' 96 1 0) 96 2 0) q j = gI M q j := fun q j h1 h2 => cc.2.2 q j (by omega)
    obtain ⟨⟨a1, a2, a3, a4, a5⟩, b, e, f, g⟩ := hw
    refine kk _ cc go fun _ _ => ⟨⟨hS.ch cc, ⟨⟨(go 5 (by decide) (by decide)).trans a1, (go 9 (by decide) (by decide)).trans a2, (go 10 (by decide) (by decide)).trans a3, (go 13 (by decide) (by decide)).trans a4, (go 15 (by decide) (by decide)).trans a5⟩, fun i hi => ?_, fun i hi => ?_, fun i hi => (gq 104 i (by decide) (by decide)).trans (f i hi), fun x hx j hj => (gq 105 _ (by decide) (by decide)).trans (g x hx j hj)⟩, ⟨fun i hi => ⟨?_, ?_, ?_⟩, ?_⟩⟩, ⟨?_, by decide, ?_, by decide⟩, fun i hi => absurd hi (Nat.not_lt_zero i), fun i hi => absurd hi (Nat.not_lt_zero i)⟩
    · obtain ⟨b1, b2, b3⟩ := b i hi
      exact ⟨(gq 99 i (by decide) (by decide)).trans b1, (gq 100 i (by decide) (by decide)).trans b2, (gq 101 i (by decide) (by decide)).trans b3⟩
    · obtain ⟨c1, c2⟩ := e i hi
      exact ⟨(gq 102 i (by decide) (by decide)).trans c1, (gq 103 i (by decide) (by decide)).trans c2⟩
    · rw [g97, h0 _ (by omega)]; rfl
    · rw [g97, h0 _ (by omega)]; rfl
    · rw [g97, h0 _ (by omega)]; rfl
    · rw [g97, h0 _ (by omega)]; rfl
    · rw [gI_ne _ _ (by omega), gI_same]; rfl
    · rw [gI_same]; rfl
  · intro i hi ih M' c h0
    refine bX9_begin_2 _ (hS.ch c) ⟨fun h => absurd h (by omega), fun _ => ⟨by omega, ?_⟩⟩
    rw [Int.toNat_natCast]
    rintro _ rfl
    refine ⟨⟨by omega, by omega⟩, ih _ (c.st rfl) (fun j hj => ?_)⟩
    rw [gI_st]
    by_cases e : j = i
    · rw [if_pos ⟨rfl, e⟩]
    · rw [if_neg (fun z => e z.2)]; exact h0 j (by omega)
theorem ok9_lay (hd : 8 ≤ d) (hS : ShM M) (hT : TMv M L t)
    (k0 : ¬ lays t L → ∀ M', ChT M M' → Q (some (vI (-2))) M')
    (k1 : lays t L → ∀ M', (∀ f g, MF M' (rdA t L).2 s00 0 f 0 g) → TMv M' L t → FrM M M' → Q (some (vI ((rdA t L).2 0 0 : Nat))) M') : Ok G mX9_lay d 0 0 [vR 96] M Q := by
  obtain ⟨d, rfl⟩ : ∃ e, d = e + 1 := ⟨d - 1, by omega⟩
  refine Ok_of rfl (Nat.le_of_ble_eq_true rfl) rfl ?_
  have hL := hT.2.1
  refine bX9_lay_0 hS (ok9_fault (by omega) hS hT (fun M1 c1 e1 hC1 => ⟨_, rfl, c1.sh hS, fun h => absurd rfl h, fun _ => ?_⟩) (fun M1 b c1 e1 => ⟨_, rfl, c1.sh hS, fun _ => k0 (fun z => by rw [z.1] at e1; cases e1) M1 c1, fun h => by omega⟩))
  rw [hC1.1, hC1.2.2.2.1]
  refine ⟨fun h => k0 (fun z => by have := z.2.1; omega) M1 c1, fun h1 => ⟨fun h2 => ?_, fun h => k0 (fun z => by have := z.2.2; omega) M1 c1⟩⟩
  have hl : lays t L := ⟨e1, by omega, by omega⟩
  have k1 := k1 hl
  rintro _ rfl _ rfl _ rfl _ rfl _ rfl
  have cA : ChA M1 (stI (stI (stI (stI (stI M1 96 5 0) 96 9 0) 96 10 0) 96 13 0) 96 15 0) := ((((ChA.rf.st (by omega)).st (by omega)).st (by omega)).st (by omega)).st (by omega)
  have hw0 : MW (stI (stI (stI (stI (stI M1 96 5 0) 96 9 0) 96 10 0) 96 13 0) 96 15 0) w00 := by
    refine ⟨⟨?_, ?_, ?_, ?_, ?_⟩, fun i hi => absurd hi (Nat.not_lt_zero i), fun i hi => absurd hi (Nat.not_lt_zero i), fun i hi => absurd hi (Nat.not_lt_zero i), fun i hi => absurd hi (Nat.not_lt_zero i)⟩ <;> simp [gI_st, w00]
  generalize stI (stI (stI (stI (stI M1 96 5 0) 96 9 0) 96 10 0) 96 13 0) 96 15 0 = A at *
  have hSA := cA.sh (c1.sh hS)
  have hTA := cA.tm (c1.tm hT)
  refine ok9_beginToRead hSA fun M2 c2 hC2 e2 => ⟨rfl, c2.sh hSA, ?_⟩
  have fr2 : FrM M M2 := ((FrM.ct c1).tr (FrM.ca cA)).tr (FrM.ct c2)
  have key : ∀ (f : Nat) (M' : MM) (a : Nat) (w : WT), L ≤ a + f → FrM M M' → ShM M' → TMv M' L t → RC M' w → MW M' w → WOk w → gI M' 96 17 = (a : Nat) → rdW t L f a w = rdA t L → Wp G mX9_lay (d + 1) 0 0 55 [some (vR 96)] [] M' 0 0 Q := by
    have fin : ∀ (M' : MM) (w : WT), FrM M M' → ShM M' → TMv M' L t → MW M' w → (rdA t L).2 = w → Ok G mX9_begin d 0 0 [vR 96] M' (fun v M2 => v = none ∧ ShM M2 ∧ (Q (some (vI (gI M2 96 5))) M2)) := by
      rintro M' w fr hS' hT' hw rfl
      refine ok9_begin hS' hw fun M3 c3 g3 hM => ⟨rfl, hS'.ch c3, ?_⟩
      rw [(hM (fun _ => s00) (fun _ => s00)).1.2.1.1.1]
      exact k1 M3 hM ⟨(g3 4 (by decide) (by decide)).trans hT'.1, hT'.2.1, fun i hi => (c3.2.2 98 i (by decide)).trans (hT'.2.2 i hi)⟩ (fr.tr (FrM.ch c3 fun q hq => by omega))
    intro f
    induction f with
    | zero =>
      intro M' a w hf fr hS' hT' hC hw hW ha hr
      refine bX9_lay_55 hS' ?_
      rw [hT'.1, ha]
      exact ⟨fun _ => fin M' w fr hS' hT' hw (by rw [← hr]; rfl), fun h => absurd (by omega) h⟩
    | succ f ih =>
      intro M' a w hf fr hS' hT' hC hw hW ha hr
      refine bX9_lay_55 hS' ?_
      rw [hT'.1, ha]
      refine ⟨fun h => ?_, fun h => ?_⟩
      · rw [rdW_e (by omega)] at hr
        exact fin M' w fr hS' hT' hw (by rw [← hr])
      · refine ok9_readsItem (w := w) (by omega) hS' hT' hC hW ha (by omega) (fun hi M3 c3 hC3 e3 v3 => ⟨_, rfl, c3.sh hS', ?_⟩) (fun hi M3 c3 => ?_)
        · refine ok9_tell (w := w) (x := xs t L a) (by omega) (c3.sh hS') (c3.mw hw) hW hi.1 hi.2.2 v3 fun M4 c4 hw4 => ⟨rfl, c4.sh (c3.sh hS'), ?_⟩
          refine ih M4 _ _ (by have := nx_gt (t := t) (L := L) (a := a); omega) ((fr.tr (FrM.ct c3)).tr (FrM.ca c4)) (c4.sh (c3.sh hS')) (c4.tm (c3.tm hT')) (c4.rc hC3) hw4 (hW.adI hi.2.2) ((c4.2.2 96 17 (by omega)).trans e3) ?_
          rw [rdW_y (by omega) hi] at hr
          exact hr
        · rw [rdW_n (by omega) hi] at hr
          rw [← hr] at e1
          cases e1
  exact key 200 M2 0 w00 (by omega) fr2 (c2.sh hSA) (c2.tm hTA) hC2 (c2.mw hw0) w00_ok e2 rfl
end LAYM
