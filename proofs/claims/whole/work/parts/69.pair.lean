/-! ===== both sides of a run: what each holds, what a call may change ===== -/
/-- world, State, pasts, kept, text -/
abbrev AbS : Type := WT × WT × Nat × (Nat → WT) × Nat × (Nat → WT) × Nat × (Nat → Int)
def IxS (M : MM) (A : AbS) : Prop := XF M A.1 A.2.1 A.2.2.1 A.2.2.2.1 A.2.2.2.2.1 A.2.2.2.2.2.1 ∧ TXv M A.2.2.2.2.2.2.1 A.2.2.2.2.2.2.2 ∧ gR M 1 2 ≠ gR M 1 3
def ImS (M : MM) (A : AbS) : Prop := MF M A.1 A.2.1 A.2.2.1 A.2.2.2.1 A.2.2.2.2.1 A.2.2.2.2.2.1 ∧ TMv M A.2.2.2.2.2.2.1 A.2.2.2.2.2.2.2
def GdS (A : AbS) : Prop := PIv A.1 A.2.1 ∧ 1 ≤ A.1 0 3 ∧ (∀ i, i < A.2.2.1 → PIv A.1 (A.2.2.2.1 i)) ∧ ∀ i, i < A.2.2.2.2.1 → PIv A.1 (A.2.2.2.2.2.1 i)
theorem IxS.of {M M' : MM} {A : AbS} {P : Nat → Prop} (h : IxS M A) (c : Ch P M M') (hp : ∀ q, P q → q = 4 ∨ q = 5 ∨ Pwo (gR M 1 3) q ∨ (39 ≤ q ∧ q ≤ 42) ∨ (87 ≤ q ∧ q ≤ 95)) : IxS M' A ∧ FrX M M' := by
  obtain ⟨⟨⟨hS, hw, hT, hV⟩, hP1, hP2⟩, hX, hne⟩ := h
  have hS' := hS.ch c
  have gr : ∀ q j, gR M' q j = gR M q j := fun q j => by unfold gR; rw [c.2.1]
  have k1 := k7_at (xlaid hS)
  have k2 := k7_at (xdraft hS)
  have ln43 : ln (43 + 1) = 8 := rfl
  have ln77 : ln (77 + 1) = 2 := rfl
  have o : ∀ q j, ¬ (q = 4 ∨ q = 5 ∨ Pwo (gR M 1 3) q ∨ (39 ≤ q ∧ q ≤ 42) ∨ (87 ≤ q ∧ q ≤ 95)) → gI M' q j = gI M q j := fun q j hq => c.2.2 q j fun z => hq (hp q z)
  refine ⟨⟨⟨⟨hS', ?_, hT.of fun q hq j => o q j ?_, hV.eq fun r j hr => o r j ?_⟩, hP1.eq rfl (fun i => gr _ _) fun q j hq => o q j ?_, hP2.eq rfl (fun i => gr _ _) fun q j hq => o q j ?_⟩, hX.of fun q j hq => o q j ?_, by rw [gr, gr]; exact hne⟩, FrX.ch c fun q hq => ?_⟩
  · rw [gr]
    exact hw.of fun q hq j => o q j (by unfold Pwo at hq ⊢; omega)
  · unfold Ptb at hq; unfold Pwo; omega
  · unfold Pst at hr; unfold Pwo; omega
  · unfold Ppi at hq; unfold Pwo; omega
  · unfold Ppi at hq; unfold Pwo; omega
  · unfold Pwo; omega
  · have := hp q hq
    unfold Pwo at this
    omega
theorem IxS.ax {M M' : MM} {A B : AbS} (h : IxS M A) (c : ChX M M') (hx : XF M' B.1 B.2.1 B.2.2.1 B.2.2.2.1 B.2.2.2.2.1 B.2.2.2.2.2.1) (ht : B.2.2.2.2.2.2 = A.2.2.2.2.2.2) : IxS M' B ∧ FrX M M' := by
  refine ⟨⟨hx, ?_, ?_⟩, FrX.cx c⟩
  · rw [ht]
    exact h.2.1.of fun q j hq => c.2.2 q j (by omega)
  · rw [c.2.1 1 2 (by decide) (by decide), c.2.1 1 3 (by decide) (by decide)]
    exact h.2.2
theorem ImS.of {M M' : MM} {A : AbS} (h : ImS M A) (c1 : M'.1 = M.1) (c2 : M'.2.2 = M.2.2) (c : ∀ q j, ¬ (106 ≤ q ∨ (q = 97 ∧ 13 ≤ j ∧ j < 26) ∨ (q = 96 ∧ (j = 17 ∨ (19 ≤ j ∧ j ≤ 23)))) → gI M' q j = gI M q j) : ImS M' A ∧ FrM M M' := by
  obtain ⟨⟨⟨hS, hw, hR⟩, ⟨p1, p2, p3, p4⟩, p5, p6⟩, hX⟩ := h
  obtain ⟨⟨a1, a2, a3, a4, a5⟩, b, e, f, g⟩ := hw
  refine ⟨⟨⟨⟨hS.of c2, ⟨⟨(c 96 5 (by omega)).trans a1, (c 96 9 (by omega)).trans a2, (c 96 10 (by omega)).trans a3, (c 96 13 (by omega)).trans a4, (c 96 15 (by omega)).trans a5⟩, fun i hi => ?_, fun i hi => ?_, fun i hi => (c 104 i (by omega)).trans (f i hi), fun x hx j hj => (c 105 _ (by omega)).trans (g x hx j hj)⟩, hR.eq fun j _ h2 => c 97 j (by omega)⟩, ⟨(c 96 1 (by omega)).trans p1, p2, (c 96 2 (by omega)).trans p3, p4⟩, fun i hi => (p5 i hi).eq fun j h1 h2 => c 97 j (by omega), fun i hi => (p6 i hi).eq fun j h1 h2 => c 97 j (by omega)⟩, ⟨(c 96 4 (by omega)).trans hX.1, hX.2.1, fun i hi => (c 98 i (by omega)).trans (hX.2.2 i hi)⟩⟩, c1, c2, fun q j hq => c q j (by omega)⟩
  · obtain ⟨b1, b2, b3⟩ := b i hi
    exact ⟨(c 99 i (by omega)).trans b1, (c 100 i (by omega)).trans b2, (c 101 i (by omega)).trans b3⟩
  · obtain ⟨c1, c2⟩ := e i hi
    exact ⟨(c 102 i (by omega)).trans c1, (c 103 i (by omega)).trans c2⟩
theorem ImS.ch {M M' : MM} {A : AbS} {P : Nat → Prop} (h : ImS M A) (c : Ch P M M') (hp : ∀ q, P q → 106 ≤ q) : ImS M' A ∧ FrM M M' := h.of c.1 c.2.1 fun q j hq => c.2.2 q j fun z => hq (Or.inl (hp q z))
theorem ImS.ct {M M' : MM} {A : AbS} (h : ImS M A) (c : ChT M M') : ImS M' A ∧ FrM M M' := h.of c.1 c.2.1 fun q j hq => c.2.2 q j (by omega)
theorem ImS.cr {M M' : MM} {A : AbS} (h : ImS M A) (c : ChR 13 M M') : ImS M' A ∧ FrM M M' := h.of c.1 c.2.1 fun q j hq => by
  by_cases e : q = 97
  · rw [e]; exact c.2.2.2 j (by omega)
  · exact c.2.2.1 q j e
theorem ImS.ax {M M' : MM} {A B : AbS} (h : ImS M A) (c : ChM M M') (hx : MF M' B.1 B.2.1 B.2.2.1 B.2.2.2.1 B.2.2.2.2.1 B.2.2.2.2.2.1) (ht : B.2.2.2.2.2.2 = A.2.2.2.2.2.2) : ImS M' B ∧ FrM M M' := by
  refine ⟨⟨hx, ?_⟩, FrM.cm c⟩
  rw [ht]
  exact ⟨(c.2.2 96 4 (by omega)).trans h.2.1, h.2.2.1, fun i hi => (c.2.2 98 i (by omega)).trans (h.2.2.2 i hi)⟩
/-- what the reference does leaves the class as it was, and the other way round -/
theorem IxS.fr {M M' : MM} {A : AbS} (h : IxS M A) (c : FrM M M') : IxS M' A := by
  obtain ⟨⟨⟨hS, hw, hT, hV⟩, hP1, hP2⟩, hX, hne⟩ := h
  have hS' := hS.of c.2.1
  have gr : ∀ q j, gR M' q j = gR M q j := fun q j => by unfold gR; rw [c.2.1]
  have k1 := k7_at (xlaid hS)
  have ln43 : ln (43 + 1) = 8 := rfl
  have ln77 : ln (77 + 1) = 2 := rfl
  refine ⟨⟨⟨hS', ?_, hT.of fun q hq j => c.2.2 q j (by unfold Ptb at hq; omega), hV.eq fun r j hr => c.2.2 r j (by unfold Pst at hr; omega)⟩, hP1.eq rfl (fun i => gr _ _) fun q j hq => c.2.2 q j (by unfold Ppi at hq; omega), hP2.eq rfl (fun i => gr _ _) fun q j hq => c.2.2 q j (by unfold Ppi at hq; omega)⟩, hX.of fun q j hq => c.2.2 q j (by omega), by rw [gr, gr]; exact hne⟩
  rw [gr]
  exact hw.of fun q hq j => c.2.2 q j (by unfold Pwo at hq; omega)
theorem ImS.fr {M M' : MM} {A : AbS} (h : ImS M A) (c : FrX M M') : ImS M' A := by
  obtain ⟨⟨⟨hS, hw, hR⟩, ⟨p1, p2, p3, p4⟩, p5, p6⟩, hX⟩ := h
  obtain ⟨⟨a1, a2, a3, a4, a5⟩, b, e, f, g⟩ := hw
  have i : ∀ q j, 96 ≤ q → gI M' q j = gI M q j := fun q j hq => (c.2 q j hq).1
  have hS' : ShM M' := by
    obtain ⟨s1, s2, s3, s4, s5, s6, s7, s8, s9, s10, s11, s12, s13, s14⟩ := hS
    have r : ∀ j, gR M' 96 j = gR M 96 j := fun j => (c.2 96 j (by decide)).2
    exact ⟨(r 0).trans s1, (r 3).trans s2, (r 6).trans s3, (r 7).trans s4, (r 8).trans s5, (r 11).trans s6, (r 12).trans s7, (r 14).trans s8, (r 16).trans s9, (r 18).trans s10, (r 24).trans s11, (r 25).trans s12, (r 26).trans s13, (r 27).trans s14⟩
  refine ⟨⟨⟨hS', ⟨⟨(i 96 5 (by omega)).trans a1, (i 96 9 (by omega)).trans a2, (i 96 10 (by omega)).trans a3, (i 96 13 (by omega)).trans a4, (i 96 15 (by omega)).trans a5⟩, fun x hx => ?_, fun x hx => ?_, fun x hx => (i 104 x (by omega)).trans (f x hx), fun x hx j hj => (i 105 _ (by omega)).trans (g x hx j hj)⟩, hR.eq fun j _ h2 => i 97 j (by omega)⟩, ⟨(i 96 1 (by omega)).trans p1, p2, (i 96 2 (by omega)).trans p3, p4⟩, fun x hx => (p5 x hx).eq fun j h1 h2 => i 97 j (by omega), fun x hx => (p6 x hx).eq fun j h1 h2 => i 97 j (by omega)⟩, ⟨(i 96 4 (by omega)).trans hX.1, hX.2.1, fun x hx => (i 98 x (by omega)).trans (hX.2.2 x hx)⟩⟩
  · obtain ⟨b1, b2, b3⟩ := b x hx
    exact ⟨(i 99 x (by omega)).trans b1, (i 100 x (by omega)).trans b2, (i 101 x (by omega)).trans b3⟩
  · obtain ⟨c1, c2⟩ := e x hx
    exact ⟨(i 102 x (by omega)).trans c1, (i 103 x (by omega)).trans c2⟩
/-- a call's answer and what it leaves: the same state, another -/
def qu (A : AbS) (x : AV) (v : AV) (B : AbS) : Prop := v = x ∧ B = A
