/-! ===== each call on both sides: the same answer, and both hold the same again: questions ===== -/
def BiS (M : MM) : Prop := ∃ A : AbS, IxS M A ∧ ImS M A ∧ GdS A
/-- the class's call, then the reference's: answers alike, both sides as one behind them -/
def PrC (G : GG) (I8 I9 : MI) (as : List AV) (M : MM) : Prop := Ok G I8 20 0 0 (vR 1 :: as) M (fun v M1 => ∃ r : Int, v = some (vI r) ∧ Ok G I9 20 0 0 (vR 96 :: as) M1 (fun v' M2 => v' = some (vI r) ∧ BiS M2))
section CALLS
variable {G : GG} {M : MM}
theorem pr_u {I8 I9 : MI} {as : List AV} {A B : AbS} {F : Int} (hM : ImS M A) (hB : GdS B) (cx : ∀ Q : Option AV → MM → Prop, (∀ M', IxS M' B → FrX M M' → Q (some (vI F)) M') → Ok G I8 20 0 0 (vR 1 :: as) M Q)
    (cm : ∀ M1, ImS M1 A → ∀ Q : Option AV → MM → Prop, (∀ M', ImS M' B → FrM M1 M' → Q (some (vI F)) M') → Ok G I9 20 0 0 (vR 96 :: as) M1 Q) : PrC G I8 I9 as M :=
  cx _ fun M1 h1 fr => ⟨F, rfl, cm M1 (hM.fr fr) _ fun M2 h2 fr2 => ⟨rfl, B, h1.fr fr2, h2, hB⟩⟩
/-- a question that changes nothing on either side -/
theorem pr_q {I8 I9 : MI} {as : List AV} {A : AbS} {F : Int} (hI : IxS M A) (hM : ImS M A) (hB : GdS A) (cx : ∀ Q : Option AV → MM → Prop, Q (some (vI F)) M → Ok G I8 20 0 0 (vR 1 :: as) M Q)
    (cm : ∀ M1, ImS M1 A → ∀ Q : Option AV → MM → Prop, Q (some (vI F)) M1 → Ok G I9 20 0 0 (vR 96 :: as) M1 Q) : PrC G I8 I9 as M :=
  pr_u hM hB (fun Q k => cx Q (k M hI FrX.rf)) fun M1 h1 Q k => cm M1 h1 Q (k M1 h1 FrM.rf)
theorem p4_thing (h : BiS M) (a b : Int) : PrC G mX8_thing mX9_thing [vI a, vI b] M := by
  obtain ⟨A, hI, hM, hG⟩ := h
  exact pr_q hI hM hG (fun Q k => ok8_thing (by decide) hI.1.1 hG.1 k) fun M1 h1 Q k => ok9_thing (by decide) h1.1.1 hG.1 k
theorem p5_person (h : BiS M) (a b : Int) : PrC G mX8_person mX9_person [vI a, vI b] M := by
  obtain ⟨A, hI, hM, hG⟩ := h
  exact pr_q hI hM hG (fun Q k => ok8_person (by decide) hI.1.1 hG.1 k) fun M1 h1 Q k => ok9_person (by decide) h1.1.1 hG.1 k
theorem p6_beast (h : BiS M) (a b : Int) : PrC G mX8_beast mX9_beast [vI a, vI b] M := by
  obtain ⟨A, hI, hM, hG⟩ := h
  exact pr_q hI hM hG (fun Q k => ok8_beast (by decide) hI.1.1 hG.1 k) fun M1 h1 Q k => ok9_beast (by decide) h1.1.1 hG.1 k
theorem p7_strength (h : BiS M) (a : Int) : PrC G mX8_strength mX9_strength [vI a] M := by
  obtain ⟨A, hI, hM, hG⟩ := h
  by_cases hc : isS A.1 a
  · exact pr_q hI hM hG (fun Q k => ok8_strength (by decide) hI.1.1 hG.1 (fun _ => k) fun z => absurd hc z) fun M1 h1 Q k => ok9_strength (by decide) h1.1.1 hG.1 (fun _ => k) fun z => absurd hc z
  · exact pr_q hI hM hG (fun Q k => ok8_strength (by decide) hI.1.1 hG.1 (fun z => absurd z hc) fun _ => k) fun M1 h1 Q k => ok9_strength (by decide) h1.1.1 hG.1 (fun z => absurd z hc) fun _ => k
theorem p8_follows (h : BiS M) (a : Int) : PrC G mX8_follows mX9_follows [vI a] M := by
  obtain ⟨A, hI, hM, hG⟩ := h
  by_cases hc : isS A.1 a
  · exact pr_q hI hM hG (fun Q k => ok8_follows (by decide) hI.1.1 hG.1 (fun _ => k) fun z => absurd hc z) fun M1 h1 Q k => ok9_follows (by decide) h1.1.1 hG.1 (fun _ => k) fun z => absurd hc z
  · exact pr_q hI hM hG (fun Q k => ok8_follows (by decide) hI.1.1 hG.1 (fun z => absurd z hc) fun _ => k) fun M1 h1 Q k => ok9_follows (by decide) h1.1.1 hG.1 (fun z => absurd z hc) fun _ => k
theorem p9_missed (h : BiS M) : PrC G mX8_missed mX9_missed [] M := by
  obtain ⟨A, hI, hM, hG⟩ := h
  exact pr_q hI hM hG (fun Q k => ok8_missed (by decide) hI.1.1 hG.1 k) fun M1 h1 Q k => ok9_missed (by decide) h1.1.1 hG.1 k
theorem p14_cost (h : BiS M) (a : Int) : PrC G mX8_cost mX9_cost [vI a] M := by
  obtain ⟨A, hI, hM, hG⟩ := h
  by_cases hc : isS A.1 a
  · exact pr_q hI hM hG (fun Q k => ok8_cost (by decide) hI.1.1 hG.1 (fun _ => k) fun z => absurd hc z) fun M1 h1 Q k => ok9_cost (by decide) h1.1.1 hG.1 (fun _ => k) fun z => absurd hc z
  · exact pr_q hI hM hG (fun Q k => ok8_cost (by decide) hI.1.1 hG.1 (fun z => absurd z hc) fun _ => k) fun M1 h1 Q k => ok9_cost (by decide) h1.1.1 hG.1 (fun z => absurd z hc) fun _ => k
theorem ppl_in {p q : Nat} (h : Ppl q) : q = 4 ∨ q = 5 ∨ Pwo p q ∨ (39 ≤ q ∧ q ≤ 42) ∨ (87 ≤ q ∧ q ≤ 95) := by
  unfold Ppl at h
  omega
theorem p15_least (h : BiS M) (a b : Int) : PrC G mX8_least mX9_least [vI a, vI b] M := by
  obtain ⟨A, hI, hM, hG⟩ := h
  refine pr_u hM hG (fun Q k => ok8_least (by decide) hI.1.1 hG.1 fun M' c => ?_) fun M1 h1 Q k => ok9_least (by decide) h1.1.1 hG.1 (k M1 h1 FrM.rf)
  obtain ⟨x, y⟩ := hI.of c fun q hq => ppl_in hq
  exact k M' x y
theorem p16_all (h : BiS M) (a : Int) : PrC G mX8_all mX9_all [vI a] M := by
  obtain ⟨A, hI, hM, hG⟩ := h
  refine pr_u (F := aAll A.1 A.2.1 a) hM hG (fun Q k => ok8_all (by decide) hI.1.1 hG.1 fun M' c => ?_) fun M1 h1 Q k => ok9_all (by decide) h1.1.1 hG.1 fun M' c => ?_
  · obtain ⟨x, y⟩ := hI.of c fun q hq => ppl_in hq
    exact k M' x y
  · obtain ⟨x, y⟩ := h1.ch c fun q hq => by unfold Pmr at hq; omega
    exact k M' x y
theorem MX_one {w : WT} {p s v v' : Nat} (h : MX w p s v) (h' : MX w p s v') : v = v' := Nat.le_antisymm (h'.2 v h.1) (h.2 v' h'.1)
theorem p17_more (h : BiS M) (a : Int) : PrC G mX8_more mX9_more [vI a] M := by
  obtain ⟨A, hI, hM, hG⟩ := h
  by_cases hc : 1 ≤ a ∧ a ≤ 90
  · refine ok8_more (by decide) hI.1.1 hG.1 (fun z => absurd hc z) fun _ M1 v c hv => ⟨_, rfl, ?_⟩
    obtain ⟨x, y⟩ := hI.of c fun q hq => ppl_in hq
    have hM1 := hM.fr y
    refine ok9_more (by decide) hM1.1.1 hG.1 (fun z => absurd hc z) fun _ M2 v' c' hv' => ?_
    obtain ⟨x', y'⟩ := hM1.ch c' fun q hq => by unfold Pmr at hq; omega
    rw [MX_one hv' hv]
    exact ⟨rfl, A, x.fr y', x', hG⟩
  · exact pr_q hI hM hG (fun Q k => ok8_more (by decide) hI.1.1 hG.1 (fun _ => k) fun z => absurd z hc) fun M1 h1 Q k => ok9_more (by decide) h1.1.1 hG.1 (fun _ => k) fun z => absurd z hc
theorem p18_worst (h : BiS M) (a : Int) : PrC G mX8_worst mX9_worst [vI a] M := by
  obtain ⟨A, hI, hM, hG⟩ := h
  exact pr_q hI hM hG (fun Q k => ok8_worst (by decide) hI.1.1 hG.1 k) fun M1 h1 Q k => ok9_worst (by decide) h1.1.1 hG.1 k
theorem p19_back (h : BiS M) (a : Int) : PrC G mX8_back mX9_back [vI a] M := by
  obtain ⟨A, hI, hM, hG⟩ := h
  exact pr_q hI hM hG (fun Q k => ok8_back (by decide) hI.1.1 hG.1 k) fun M1 h1 Q k => ok9_back (by decide) h1.1.1 hG.1 k
theorem p20_missing (h : BiS M) (a b c : Int) : PrC G mX8_missing mX9_missing [vI a, vI b, vI c] M := by
  obtain ⟨A, hI, hM, hG⟩ := h
  exact pr_q hI hM hG (fun Q k => ok8_missing (by decide) hI.1.1 hG.1 k) fun M1 h1 Q k => ok9_missing (by decide) h1.1.1 hG.1 k
theorem p21_trial (h : BiS M) (a b c e : Int) : Ok G mX8_trial 20 0 0 [vR 1, vI a, vI b, vI c, vI e] M (fun v M1 => ∃ r : Int, v = some (vL r) ∧ Ok G mX9_trial 20 0 0 [vR 96, vI a, vI b, vI c, vI e] M1 (fun v' M2 => v' = some (vL r) ∧ BiS M2)) := by
  obtain ⟨A, hI, hM, hG⟩ := h
  exact ok8_trial (by decide) hI.1.1.1 ⟨_, rfl, ok9_trial (by decide) hM.1.1.1 ⟨rfl, A, hI, hM, hG⟩⟩
theorem p22_pledge (h : BiS M) (a : Int) : PrC G mX8_pledge mX9_pledge [vI a] M := by
  obtain ⟨A, hI, hM, hG⟩ := h
  exact pr_q hI hM hG (fun Q k => ok8_pledge (by decide) hI.1.1 hG.1 k) fun M1 h1 Q k => ok9_pledge (by decide) h1.1.1 hG.1 k
theorem p23_gain (h : BiS M) (a : Int) : PrC G mX8_gain mX9_gain [vI a] M := by
  obtain ⟨A, hI, hM, hG⟩ := h
  refine pr_u (F := aGain A.1 a) hM hG (fun Q k => ok8_gain (by decide) hI.1.1 hG.1 fun M' c => ?_) fun M1 h1 Q k => ok9_gain (by decide) h1.1.1 hG.1 fun M' c => ?_
  · obtain ⟨x, y⟩ := hI.of c fun q hq => by omega
    exact k M' x y
  · obtain ⟨x, y⟩ := h1.ch c fun q hq => by omega
    exact k M' x y
theorem p24_row (h : BiS M) (a b c : Int) : PrC G mX8_row mX9_row [vI a, vI b, vI c] M := by
  obtain ⟨A, hI, hM, hG⟩ := h
  refine pr_u (F := aRow A.1 A.2.1 a b c) hM hG (fun Q k => ok8_row (by decide) hI.1.1 hG.1 hG.2.1 fun M' c => ?_) fun M1 h1 Q k => ok9_row (by decide) h1.1.1 hG.1 hG.2.1 fun M' c => ?_
  · obtain ⟨x, y⟩ := hI.of c fun q hq => by unfold Pst at hq; omega
    exact k M' x y
  · obtain ⟨x, y⟩ := h1.cr c
    exact k M' x y
theorem p27_count (h : BiS M) (a : Int) : PrC G mX8_count mX9_count [vI a] M := by
  obtain ⟨A, hI, hM, hG⟩ := h
  exact pr_q hI hM hG (fun Q k => ok8_count (by decide) hI.1 hI.2.1 k) fun M1 h1 Q k => ok9_count h1.1 h1.2 k
theorem p2_fault (h : BiS M) : PrC G mX8_fault mX9_fault [] M := by
  obtain ⟨A, hI, hM, hG⟩ := h
  refine pr_u (F := aFault A.2.2.2.2.2.2.2 A.2.2.2.2.2.2.1) hM hG (fun Q k => ok8_fault (by decide) hI.1.1.1 hI.2.1 fun M' c => ?_) fun M1 h1 Q k => ok9_faultA (by decide) h1.1.1.1 h1.2 fun M' c => ?_
  · obtain ⟨x, y⟩ := hI.of c fun q hq => hq.elim Or.inl fun z => z.elim (fun y => Or.inr (Or.inl y)) fun y => Or.inr (Or.inr (Or.inl y))
    exact k M' x y
  · obtain ⟨x, y⟩ := h1.ct c
    exact k M' x y
end CALLS
