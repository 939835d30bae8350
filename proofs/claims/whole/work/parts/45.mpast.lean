/-! ===== the pasts of the reference ===== -/
theorem RV.eq {M M' : MM} {b : Nat} {s : WT} (h : RV M b s) (e : ∀ j, b ≤ j → j < b + 13 → gI M' 97 j = gI M 97 j) : RV M' b s :=
  ⟨fun c hc => ⟨(e _ (by omega) (by omega)).trans (h.1 c hc).1, (e _ (by omega) (by omega)).trans (h.1 c hc).2.1, (e _ (by omega) (by omega)).trans (h.1 c hc).2.2⟩, (e _ (by omega) (by omega)).trans h.2⟩
/-- n pasts f, k kept g -/
def PMv (M : MM) (n : Nat) (f : Nat → WT) (k : Nat) (g : Nat → WT) : Prop := (gI M 96 1 = (n : Nat) ∧ n ≤ 8 ∧ gI M 96 2 = (k : Nat) ∧ k ≤ 2) ∧ (∀ i, i < n → RV M (52 + 13 * i) (f i)) ∧ ∀ i, i < k → RV M (26 + 13 * i) (g i)
def ChM (M M' : MM) : Prop := M'.1 = M.1 ∧ M'.2.2 = M.2.2 ∧ ∀ q j, ¬ (q = 97 ∨ (q = 96 ∧ (j = 1 ∨ j = 2)) ∨ 106 ≤ q) → gI M' q j = gI M q j
theorem ChM.rf {M : MM} : ChM M M := ⟨rfl, rfl, fun _ _ _ => rfl⟩
theorem ChM.tr {A B C : MM} (h1 : ChM A B) (h2 : ChM B C) : ChM A C := ⟨h2.1.trans h1.1, h2.2.1.trans h1.2.1, fun q j h => (h2.2.2 q j h).trans (h1.2.2 q j h)⟩
theorem ChM.sh {A B : MM} (h : ChM A B) (hS : ShM A) : ShM B := hS.of h.2.1
theorem ChM.mw {A B : MM} {w : WT} (h : ChM A B) (hw : MW A w) : MW B w := by
  obtain ⟨⟨a1, a2, a3, a4, a5⟩, b, c, d, e⟩ := hw
  have z : ∀ q j, ¬ (q = 97 ∨ (q = 96 ∧ (j = 1 ∨ j = 2)) ∨ 106 ≤ q) → gI B q j = gI A q j := h.2.2
  refine ⟨⟨(z 96 5 (by omega)).trans a1, (z 96 9 (by omega)).trans a2, (z 96 10 (by omega)).trans a3, (z 96 13 (by omega)).trans a4, (z 96 15 (by omega)).trans a5⟩, fun t ht => ?_, fun i hi => ?_, fun b hb => (z 104 b (by omega)).trans (d b hb), fun x hx j hj => (z 105 _ (by omega)).trans (e x hx j hj)⟩
  · obtain ⟨b1, b2, b3⟩ := b t ht
    exact ⟨(z 99 t (by omega)).trans b1, (z 100 t (by omega)).trans b2, (z 101 t (by omega)).trans b3⟩
  · obtain ⟨c1, c2⟩ := c i hi
    exact ⟨(z 102 i (by omega)).trans c1, (z 103 i (by omega)).trans c2⟩
theorem ChM.st {A B : MM} {p k : Nat} {x : Int} (h : ChM A B) (hp : p = 97 ∨ (p = 96 ∧ (k = 1 ∨ k = 2)) ∨ 106 ≤ p) : ChM A (stI B p k x) := ⟨h.1, h.2.1, fun q j hq => (gI_ne B x (fun z => hq (by rw [z.1, z.2]; exact hp))).trans (h.2.2 q j hq)⟩
theorem ChM.cr {A B : MM} {b : Nat} (h : ChR b A B) : ChM A B := ⟨h.1, h.2.1, fun q j hq => h.2.2.1 q j (by omega)⟩
section MPAST
variable {G : GG} {M : MM} {d : Nat} {Q : Option AV → MM → Prop}
theorem keepc {m k : Nat} {f g : Nat → WT} {s : WT} (hS : ShM M) (hP : PMv M m f k g) (hm : m < 8) (hR : RV M 0 s) (kk : ∀ M', ChM M M' → PMv M' (m + 1) (fun i => if i = m then s else f i) k g → RV M' 0 s → Q none M') :
    Ok G mX9_copy d 0 0 [vR 96, vI 0, vI (52 + (13 * (m : Int)))] M (fun v M4 => v = none ∧ ShM M4 ∧ (R32 ((gI M4 96 1) + 1) ∧ (∀ M5 : MM, M5 = stI M4 96 1 ((gI M4 96 1) + 1) → (Q none M5)))) := by
  obtain ⟨⟨p1, p2, p3, p4⟩, p5, p6⟩ := hP
  rw [show 52 + (13 * (m : Int)) = ((52 + 13 * m : Nat) : Int) by omega]
  refine ok9_copy (a := 0) hS hR (by decide) (by omega) (by omega) fun M4 c hR4 => ⟨rfl, c.sh hS, ?_⟩
  have e1 : gI M4 96 1 = (m : Nat) := (c.2.2.1 96 1 (by decide)).trans p1
  rw [e1]
  refine ⟨⟨by omega, by omega⟩, ?_⟩
  rintro _ rfl
  have g97 : ∀ j, gI (stI M4 96 1 ((m : Int) + 1)) 97 j = gI M4 97 j := fun j => gI_ne _ _ (by omega)
  refine kk _ ((ChM.cr c).st (Or.inr (Or.inl ⟨rfl, Or.inl rfl⟩))) ⟨⟨by rw [gI_same]; rfl, by omega, ?_, p4⟩, fun i hi => ?_, fun i hi => ?_⟩ ?_
  · rw [gI_ne _ _ (by omega)]
    exact (c.2.2.1 96 2 (by decide)).trans p3
  · show RV _ _ (if i = m then s else f i)
    by_cases him : i = m
    · rw [if_pos him, him]
      exact hR4.eq fun j _ _ => g97 j
    · rw [if_neg him]
      exact (p5 i (by omega)).eq fun j h1 h2 => (g97 j).trans (c.2.2.2 j (by omega))
  · exact (p6 i hi).eq fun j h1 h2 => (g97 j).trans (c.2.2.2 j (by omega))
  · exact hR.eq fun j h1 h2 => (g97 j).trans (c.2.2.2 j (by omega))
theorem ok9_keepPast {n k : Nat} {f g : Nat → WT} {s : WT} (hd : 1 ≤ d) (hS : ShM M) (hP : PMv M n f k g) (hR : RV M 0 s) (kk : ∀ M', ChM M M' → PMv M' (pshn n 8) (psh n 8 f s) k g → RV M' 0 s → Q none M') : Ok G mX9_keepPast d 0 0 [vR 96] M Q := by
  obtain ⟨d, rfl⟩ : ∃ e, d = e + 1 := ⟨d - 1, by omega⟩
  refine Ok_of rfl (Nat.le_of_ble_eq_true rfl) rfl ?_
  refine bX9_keepPast_0 hS ?_
  obtain ⟨⟨p1, p2, p3, p4⟩, p5, p6⟩ := hP
  by_cases h8 : n = 8
  · subst h8
    have e1 : pshn 8 8 = 7 + 1 := rfl
    have e2 : psh 8 8 f s = fun i => if i = 7 then s else f (i + 1) := funext fun i => by
      unfold psh
      rw [if_neg (by omega)]
      by_cases q : i = 7
      · rw [if_pos q, if_pos (by omega)]
      · rw [if_neg q, if_neg (by omega)]
    rw [e1, e2] at kk
    refine down (fun i => ∀ M', ChM M M' → (∀ j, gI M' 96 j = gI M 96 j) → (∀ j, gI M' 97 j = if 52 ≤ j ∧ j < 52 + i then gI M 97 (j + 13) else gI M 97 j) → Wp G mX9_keepPast (d + 1) 0 0 2 [some (vR 96), some (vI (i : Int))] [] M' 0 0 Q) (n := 91) ?_ ?_ 0 (Nat.zero_le _) M ChM.rf (fun _ => rfl) (fun j => by rw [if_neg (by omega)])
    · intro M' c m1 m2
      refine bX9_keepPast_2 _ (c.sh hS) ⟨fun _ => ?_, fun h => absurd (by decide) h⟩
      rw [m1 1, p1, if_pos (by decide)]
      refine ⟨⟨by decide, by decide⟩, ?_⟩
      rintro _ rfl
      rw [gI_same]
      refine ⟨⟨by decide, by decide⟩, ⟨by decide, by decide⟩, ?_⟩
      have c2 : ChM M (stI M' 96 1 (((8 : Nat) : Int) - 1)) := c.st (Or.inr (Or.inl ⟨rfl, Or.inl rfl⟩))
      have g97 : ∀ j, gI (stI M' 96 1 (((8 : Nat) : Int) - 1)) 97 j = gI M' 97 j := fun j => gI_ne _ _ (by omega)
      refine keepc (m := 7) (f := fun i => f (i + 1)) (k := k) (g := g) (s := s) (c2.sh hS) ⟨⟨gI_same _ _ _ _, by decide, ?_, p4⟩, fun i hi => ?_, fun i hi => ?_⟩ (by decide) ?_ fun M5 c5 hP5 hR5 => kk M5 (c2.tr c5) hP5 hR5
      · rw [gI_ne _ _ (by omega), m1 2]; exact p3
      · have h := p5 (i + 1) (by omega)
        refine ⟨fun b hb => ?_, ?_⟩
        · obtain ⟨x1, x2, x3⟩ := h.1 b hb
          refine ⟨?_, ?_, ?_⟩
          · rw [g97, m2, if_pos (by omega), ← x1]; congr 1; omega
          · rw [g97, m2, if_pos (by omega), ← x2]; congr 1; omega
          · rw [g97, m2, if_pos (by omega), ← x3]; congr 1; omega
        · rw [g97, m2, if_pos (by omega), ← h.2, show 52 + 13 * i + 12 + 13 = 52 + 13 * (i + 1) + 12 by omega]
      · exact (p6 i hi).eq fun j h1 h2 => by rw [g97, m2, if_neg (by omega)]
      · exact hR.eq fun j h1 h2 => by rw [g97, m2, if_neg (by omega)]
    · intro i hi ih M' c m1 m2
      refine bX9_keepPast_2 _ (c.sh hS) ⟨fun h => absurd h (by omega), fun _ => ⟨fun h => absurd (by rw [m1 1, p1]; rfl) h, fun _ => ⟨⟨by omega, by omega⟩, ⟨by omega, by omega⟩, ⟨by omega, by omega⟩, ⟨by omega, by omega⟩, ⟨by omega, by omega⟩, ?_⟩⟩⟩
      rw [show (52 + (i : Int)).toNat = 52 + i by omega, show (52 + (i : Int) + 13).toNat = 52 + i + 13 by omega]
      rintro _ rfl
      refine ⟨⟨by omega, by omega⟩, ih _ (c.st (Or.inl rfl)) (fun j => (gI_ne _ _ (by omega)).trans (m1 j)) fun j => ?_⟩
      rw [gI_st]
      by_cases hj : j = 52 + i
      · rw [if_pos ⟨rfl, hj⟩, if_pos (by omega), m2, if_neg (by omega), hj]
      · rw [if_neg (fun z => hj z.2), m2]
        by_cases hj2 : 52 ≤ j ∧ j < 52 + i
        · rw [if_pos hj2, if_pos (by omega)]
        · rw [if_neg hj2, if_neg (by omega)]
  · have e1 : pshn n 8 = n + 1 := if_pos (by omega)
    have e2 : psh n 8 f s = fun i => if i = n then s else f i := funext fun i => if_pos (by omega)
    rw [e1, e2] at kk
    refine bX9_keepPast_2 _ hS ⟨fun h => absurd h (by decide), fun _ => ⟨fun _ => ?_, fun h => absurd h (by omega)⟩⟩
    rw [p1, Int.sub_zero]
    refine ⟨⟨by omega, by omega⟩, ?_⟩
    rintro _ rfl
    rw [gI_same]
    refine ⟨⟨by omega, by omega⟩, ⟨by omega, by omega⟩, ?_⟩
    have c2 : ChM M (stI M 96 1 ((n : Nat) : Int)) := ChM.rf.st (Or.inr (Or.inl ⟨rfl, Or.inl rfl⟩))
    have g97 : ∀ j, gI (stI M 96 1 ((n : Nat) : Int)) 97 j = gI M 97 j := fun j => gI_ne _ _ (by omega)
    refine keepc (m := n) (f := f) (k := k) (g := g) (s := s) (c2.sh hS) ⟨⟨gI_same _ _ _ _, p2, ?_, p4⟩, fun i hi => (p5 i hi).eq fun j _ _ => g97 j, fun i hi => (p6 i hi).eq fun j _ _ => g97 j⟩ (by omega) (hR.eq fun j _ _ => g97 j) fun M5 c5 hP5 hR5 => kk M5 (c2.tr c5) hP5 hR5
    rw [gI_ne _ _ (by omega)]; exact p3
end MPAST
