/-! ===== how many beasts of one pull: the most ribbons out of a set ===== -/
def MX (w : WT) (p s v : Nat) : Prop := hld w (List.replicate v p) s = true ∧ ∀ k, hld w (List.replicate k p) s = true → k ≤ v
theorem MX.uq {w : WT} {p s u v : Nat} (h : MX w p s u) (h2 : MX w p s v) : u = v := Nat.le_antisymm (h2.2 u h.1) (h.2 v h2.1)
theorem rep_s {k p : Nat} : List.replicate (k + 1) p = p :: List.replicate k p := rfl
theorem hld_le {w : WT} (hW : WOk w) {p s k : Nat} (hp : 1 ≤ p) (h : hld w (List.replicate k p) s = true) : k * p ≤ str w s ∧ k ≤ 400 := by
  have h1 := hld_sum h
  have h2 : (List.replicate k p).sum = k * p := by
    clear h h1
    induction k with
    | zero => simp
    | succ k ih => rw [rep_s, List.sum_cons, ih, Nat.succ_mul]; omega
  have h3 := str_le hW s
  rw [h2] at h1
  refine ⟨h1, ?_⟩
  have : k * 1 ≤ k * p := Nat.mul_le_mul_left k hp
  omega
theorem MX_0 {w : WT} {p : Nat} : MX w p 0 0 := by
  refine ⟨rfl, fun k h => ?_⟩
  cases k with
  | zero => exact Nat.le_refl 0
  | succ k =>
    obtain ⟨r, hr⟩ := hld_t.mp h
    have := okr_t.mp hr
    have := sub_le this.2.1
    omega
/-- the value as the reference reckons it -/
theorem MX_of {w : WT} {p s v : Nat} (h1 : v = 0 ∨ ∃ r u, r ≠ 0 ∧ sub r s ∧ p ≤ str w r ∧ MX w p (nd s r) u ∧ v = 1 + u) (h2 : ∀ r u, r ≠ 0 → sub r s → p ≤ str w r → MX w p (nd s r) u → 1 + u ≤ v) (h3 : ∀ r, r ≠ 0 → sub r s → ∃ u, MX w p (nd s r) u) : MX w p s v := by
  refine ⟨?_, fun k hk => ?_⟩
  · rcases h1 with rfl | ⟨r, u, a1, a2, a3, a4, rfl⟩
    · rfl
    · rw [Nat.add_comm]
      exact hld_t.mpr ⟨r, okr_t.mpr ⟨a1, a2, a3, a4.1⟩⟩
  · cases k with
    | zero => exact Nat.zero_le _
    | succ k =>
      obtain ⟨r, hr⟩ := hld_t.mp hk
      obtain ⟨a1, a2, a3, a4⟩ := okr_t.mp hr
      obtain ⟨u, hu⟩ := h3 r a1 a2
      have := h2 r u a1 a2 a3 hu
      have := hu.2 k a4
      omega
theorem nd_nd {a b c : Nat} : nd (nd a b) c = nd (nd a c) b := by
  apply Nat.eq_of_testBit_eq
  intro i
  rw [nd_bit, nd_bit, nd_bit, nd_bit]
  cases a.testBit i <;> cases b.testBit i <;> cases c.testBit i <;> rfl
theorem nd_mono {a b c : Nat} (h : sub a b) : sub (nd a c) (nd b c) := fun i hi => by
  rw [nd_bit] at hi ⊢
  cases ha : a.testBit i
  · rw [ha] at hi; cases hi
  · rw [ha] at hi; rw [h i ha]; exact hi
/-- one thing of the set is in no ribbon, or in one with some of the others -/
theorem split_at {w : WT} {p j : Nat} : ∀ (k : Nat) (s : Nat), s.testBit j = true → hld w (List.replicate (k + 1) p) s = true →
    hld w (List.replicate (k + 1) p) (nd s (2 ^ j)) = true ∨ ∃ x, sub x (nd s (2 ^ j)) ∧ p ≤ str w (x ||| 2 ^ j) ∧ hld w (List.replicate k p) (nd (nd s (2 ^ j)) x) = true := by
  intro k
  induction k with
  | zero =>
    intro s hs h
    obtain ⟨r, hr⟩ := hld_t.mp h
    obtain ⟨a1, a2, a3, a4⟩ := okr_t.mp hr
    cases hj : r.testBit j
    · left
      refine hld_t.mpr ⟨r, okr_t.mpr ⟨a1, fun i hi => ?_, a3, rfl⟩⟩
      rw [nd_bit, a2 i hi, two_pow_bit, decide_eq_false (fun z => by rw [z, hi] at hj; cases hj)]
      rfl
    · right
      refine ⟨nd r (2 ^ j), nd_mono a2, ?_, rfl⟩
      have : sub r (nd r (2 ^ j) ||| 2 ^ j) := fun i hi => by
        rw [Nat.testBit_or, nd_bit, hi]
        cases (2 ^ j).testBit i <;> rfl
      exact Nat.le_trans a3 (str_mono this)
  | succ k ih =>
    intro s hs h
    obtain ⟨r, hr⟩ := hld_t.mp h
    obtain ⟨a1, a2, a3, a4⟩ := okr_t.mp hr
    cases hj : r.testBit j
    · have hrs : sub r (nd s (2 ^ j)) := fun i hi => by
        rw [nd_bit, a2 i hi, two_pow_bit, decide_eq_false (fun z => by rw [z, hi] at hj; cases hj)]
        rfl
      have hs2 : (nd s r).testBit j = true := by rw [nd_bit, hs, hj]; rfl
      rcases ih (nd s r) hs2 a4 with q | ⟨x, x1, x2, x3⟩
      · left
        refine hld_t.mpr ⟨r, okr_t.mpr ⟨a1, hrs, a3, ?_⟩⟩
        rw [nd_nd]
        exact q
      · right
        have e : nd (nd s r) (2 ^ j) = nd (nd s (2 ^ j)) r := nd_nd
        rw [e] at x1 x3
        refine ⟨x, sub_tr x1 nd_sub, x2, hld_t.mpr ⟨r, okr_t.mpr ⟨a1, fun i hi => ?_, a3, ?_⟩⟩⟩
        · rw [nd_bit, hrs i hi]
          cases hx : x.testBit i
          · rfl
          · have := x1 i hx
            rw [nd_bit, hi, Bool.not_true, Bool.and_false] at this
            cases this
        · rw [nd_nd]; exact x3
    · right
      have e : nd (nd s (2 ^ j)) (nd r (2 ^ j)) = nd s r := by
        apply Nat.eq_of_testBit_eq
        intro i
        rw [nd_bit, nd_bit, nd_bit, nd_bit, two_pow_bit]
        by_cases hij : j = i
        · rw [← hij, hs, hj]; simp
        · rw [decide_eq_false hij]; simp
      refine ⟨nd r (2 ^ j), nd_mono a2, ?_, by rw [e]; exact a4⟩
      have : sub r (nd r (2 ^ j) ||| 2 ^ j) := fun i hi => by
        rw [Nat.testBit_or, nd_bit, hi]
        cases (2 ^ j).testBit i <;> rfl
      exact Nat.le_trans a3 (str_mono this)
theorem low_bit : ∀ s : Nat, s < 1024 → s ≠ 0 → ∃ j, j < 10 ∧ lowb s = 2 ^ j ∧ s.testBit j = true := by decide +kernel
def MK (M : MM) (w : WT) (p t i : Nat) : Prop := ∀ s, s < i → sub s t → ∃ v : Nat, gI M 93 s = (v : Int) ∧ MX w p s v
section MORE
variable {G : GG} {M : MM} {d : Nat} {Q : Option AV → MM → Prop}
theorem ok_mostKnown {s : Nat} (hS : ShX M) (hs : s < 1024) (kk : Q (some (vI (gI M 93 s))) M) : Ok G mX3_mostKnown d 0 0 [vR 87, vI s] M Q := by
  refine Ok_of rfl (Nat.le_of_ble_eq_true rfl) rfl ?_
  refine bX3_mostKnown_0 _ hS ⟨fun h => absurd h (by omega), fun _ => ⟨fun h => absurd h (by omega), fun _ => ⟨⟨by omega, by omega⟩, ?_⟩⟩⟩
  rw [Int.toNat_natCast]
  exact kk
theorem ok_mostOutOf {s p t i : Nat} {w : WT} (hd : 1 ≤ d) (hS : ShX M) (hT : TB M w) (hW : WOk w) (hs : s < 2 ^ w 0 0) (hst : sub s t) (hp : 1 ≤ p) (hp2 : p ≤ 90) (hK : MK M w p t i) (hi : s ≤ i) (kk : ∀ v : Nat, MX w p s v → Q (some (vI v)) M) : Ok G mX3_mostOutOf d 0 0 [vR 87, vI s, vI p] M Q := by
  obtain ⟨d, rfl⟩ : ∃ e, d = e + 1 := ⟨d - 1, by omega⟩
  refine Ok_of rfl (Nat.le_of_ble_eq_true rfl) rfl ?_
  have hpw := pow_le hW
  refine bX3_mostOutOf_0 _ _ hS ⟨⟨by omega, by omega⟩, fun h => ?_, fun h => ⟨fun _ => ?_, fun h => absurd (by omega) h⟩⟩
  · have e : s = 0 := by omega
    subst e
    exact kk 0 MX_0
  have h0 : s ≠ 0 := by omega
  have la := low_all s (by omega)
  obtain ⟨j, j1, j2, j3⟩ := low_bit s (by omega) h0
  rw [la.1, ixor_n (by omega) (by omega), nd_xor (lowb_sub (by omega) h0), j2]
  have hsb : sub (2 ^ j) s := by rw [← j2]; exact lowb_sub (by omega) h0
  have hol := nd_lt_of hsb (by have := Nat.two_pow_pos j; omega)
  have h2j : 2 ^ j < 2 ^ 10 := Nat.pow_lt_pow_right (by decide) j1
  have split := split_at (w := w) (p := p) (j := j)
  have hos : sub (nd s (2 ^ j)) s := nd_sub
  have hor : ∀ x, sub x (nd s (2 ^ j)) → sub (x ||| 2 ^ j) s ∧ nd s (x ||| 2 ^ j) = nd (nd s (2 ^ j)) x := by
    intro x hx
    refine ⟨sub_or.mpr ⟨sub_tr hx hos, hsb⟩, ?_⟩
    apply Nat.eq_of_testBit_eq
    intro b
    rw [nd_bit, nd_bit, nd_bit, Nat.testBit_or]
    cases s.testBit b <;> cases x.testBit b <;> cases (2 ^ j).testBit b <;> rfl
  generalize ho : nd s (2 ^ j) = o at *
  have hot := sub_tr hos hst
  obtain ⟨v0, v1, v2⟩ := hK o (by omega) hot
  have hv0 := hld_le hW hp v2.1
  refine ok_mostKnown hS (by omega) ⟨_, rfl, hS, ?_⟩
  rw [v1]
  refine ⟨⟨by omega, by omega⟩, ok_strengthOf hS hT hW hs ⟨_, rfl, hS, by omega, ?_, ?_⟩⟩
  · have e : Int.tdiv ((str w s : Nat) : Int) (p : Int) = ((str w s / p : Nat) : Int) := rfl
    rw [e]
    have := str_le hW s
    have := Nat.div_le_self (str w s) p
    generalize str w s / p = q at *
    exact ⟨by omega, by omega⟩
  have e : Int.tdiv ((str w s : Nat) : Int) (p : Int) = ((str w s / p : Nat) : Int) := rfl
  rw [e]
  -- nothing above the bound
  have up1 : ∀ k, hld w (List.replicate k p) s = true → k ≤ v0 + 1 ∧ k ≤ str w s / p := by
    intro k hk
    refine ⟨?_, (Nat.le_div_iff_mul_le hp).mpr (hld_le hW hp hk).1⟩
    cases k with
    | zero => omega
    | succ k =>
      rcases split k s j3 hk with q | ⟨x, x1, x2, x3⟩
      · rw [ho] at q
        have := v2.2 _ q
        omega
      · rw [ho] at x1 x3
        have := v2.2 k (hld_mono nd_sub x3)
        omega
  have low0 : hld w (List.replicate v0 p) s = true := hld_mono hos v2.1
  generalize hbd : (if ((str w s / p : Nat) : Int) < (v0 : Int) + 1 then ((str w s / p : Nat) : Int) else (v0 : Int) + 1) = bd
  have hbd2 : ∀ k, hld w (List.replicate k p) s = true → (k : Int) ≤ bd := by
    intro k hk
    have := up1 k hk
    rw [← hbd]
    split <;> omega
  -- the values met so far
  have fin : ∀ v : Nat, v0 ≤ v → hld w (List.replicate v p) s = true → (∀ x u, sub x o → p ≤ str w (x ||| 2 ^ j) → MX w p (nd o x) u → 1 + u ≤ v) → MX w p s v := by
    intro v hv hh hall
    refine ⟨hh, fun k hk => ?_⟩
    cases k with
    | zero => exact Nat.zero_le _
    | succ k =>
      rcases split k s j3 hk with q | ⟨x, x1, x2, x3⟩
      · rw [ho] at q
        have := v2.2 _ q
        omega
      · rw [ho] at x1 x3
        have hle := sub_le (nd_sub (a := o) (b := x))
        obtain ⟨u, u1, u2⟩ := hK (nd o x) (by omega) (sub_tr nd_sub hot)
        have := hall x u x1 x2 u2
        have := u2.2 k x3
        omega
  have stop : ∀ (v : Nat) (x : Int), bd ≤ (v : Int) → hld w (List.replicate v p) s = true → Wp G mX3_mostOutOf (d + 1) 0 0 52 [some (vR 87), none, some (vI p), some (vI ((2 ^ j : Nat) : Int)), some (vI o), some (vI v), some (vI bd), some (vI x)] [] M 0 0 Q := by
    intro v x hb hh
    have : MX w p s v := ⟨hh, fun k hk => by have := hbd2 k hk; omega⟩
    exact bX3_mostOutOf_52 _ _ _ _ _ _ hS ⟨fun _ => kk v this, fun _ => ⟨fun _ => kk v this, fun h => absurd hb h⟩⟩
  have last : ∀ v : Nat, v0 ≤ v → hld w (List.replicate v p) s = true → (∀ x u, sub x o → p ≤ str w (x ||| 2 ^ j) → MX w p (nd o x) u → 1 + u ≤ v) → Wp G mX3_mostOutOf (d + 1) 0 0 52 [some (vR 87), none, some (vI p), some (vI ((2 ^ j : Nat) : Int)), some (vI o), some (vI v), some (vI bd), some (vI (-1))] [] M 0 0 Q :=
    fun v h1 h2 h3 => bX3_mostOutOf_52 _ _ _ _ _ _ hS ⟨fun _ => kk v (fin v h1 h2 h3), fun h => absurd (by decide) h⟩
  have key : ∀ r : Nat, sub r o → ∀ v : Nat, v0 ≤ v → hld w (List.replicate v p) s = true → (∀ x u, r < x → sub x o → p ≤ str w (x ||| 2 ^ j) → MX w p (nd o x) u → 1 + u ≤ v) → Wp G mX3_mostOutOf (d + 1) 0 0 52 [some (vR 87), none, some (vI p), some (vI ((2 ^ j : Nat) : Int)), some (vI o), some (vI v), some (vI bd), some (vI r)] [] M 0 0 Q := by
    intro r
    induction r using Nat.strongRecOn with
    | _ r ih =>
      intro hr v hv hh hall
      by_cases hb : bd ≤ (v : Int)
      · exact stop v r hb hh
      have hr2 := sub_le hr
      obtain ⟨q1, q2⟩ := hor r hr
      have hrl := sub_le q1
      have hno := sub_le (nd_sub (a := o) (b := r))
      obtain ⟨u, u1, u2⟩ := hK (nd o r) (by omega) (sub_tr nd_sub hot)
      have hu4 := hld_le hW hp u2.1
      have hv4 := hld_le hW hp hh
      have next : ∀ v2 : Nat, v0 ≤ v2 → hld w (List.replicate v2 p) s = true → v ≤ v2 → (p ≤ str w (r ||| 2 ^ j) → 1 + u ≤ v2) → (r ≠ 0 → Wp G mX3_mostOutOf (d + 1) 0 0 52 [some (vR 87), none, some (vI p), some (vI ((2 ^ j : Nat) : Int)), some (vI o), some (vI v2), some (vI bd), some (vI (((r - 1) &&& o : Nat) : Int))] [] M 0 0 Q) ∧ (r = 0 → Wp G mX3_mostOutOf (d + 1) 0 0 52 [some (vR 87), none, some (vI p), some (vI ((2 ^ j : Nat) : Int)), some (vI o), some (vI v2), some (vI bd), some (vI (-1))] [] M 0 0 Q) := by
        intro y hy hyh hvy hyu
        have all : ∀ x u2, r ≤ x → sub x o → p ≤ str w (x ||| 2 ^ j) → MX w p (nd o x) u2 → 1 + u2 ≤ y := by
          intro x z hx hxo hxp hxm
          rcases Nat.lt_or_ge r x with q | q
          · have := hall x z q hxo hxp hxm
            omega
          · have e : x = r := by omega
            subst e
            rw [hxm.uq u2]
            exact hyu hxp
        refine ⟨fun hr0 => ?_, fun hr0 => last y hy hyh fun x z hxo => all x z (by omega) hxo⟩
        have l1 : (r - 1) &&& o ≤ r - 1 := Nat.and_le_left
        refine ih _ (by omega) (fun b hb => ?_) y hy hyh fun x z hx hxo hxp hxm => ?_
        · rw [Nat.testBit_and] at hb
          cases hob : o.testBit b
          · rw [hob, Bool.and_false] at hb; cases hb
          · rfl
        · refine all x z ?_ hxo hxp hxm
          rcases Nat.lt_or_ge x r with q | q
          · have := next_sub r hxo hr q
            omega
          · exact q
      refine bX3_mostOutOf_52 _ _ _ _ _ _ hS ⟨fun h => absurd h (by omega), fun _ => ⟨fun h => absurd h hb, fun _ => ?_⟩⟩
      rw [ior_n (by omega) (by omega), ixor_n (by omega) (by omega), nd_xor hr]
      have en : r ≠ 0 → iandv ((r : Int) - 1) (o : Int) = (((r - 1) &&& o : Nat) : Int) := fun hr0 => by
        rw [show ((r : Int) - 1) = ((r - 1 : Nat) : Int) by omega, iand_n (by omega)]
      refine ok_strengthOf hS hT hW (by omega) ⟨_, rfl, hS, fun hlt => ?_, fun hge => ok_mostKnown hS (by omega) ⟨_, rfl, hS, ?_⟩⟩
      · obtain ⟨n1, n2⟩ := next v hv hh (Nat.le_refl v) (fun z => by omega)
        refine ⟨fun hr0 => ⟨⟨by omega, by omega⟩, ?_⟩, fun hr0 => n2 (by omega)⟩
        rw [en (by omega)]
        exact n1 (by omega)
      · rw [u1]
        refine ⟨⟨by omega, by omega⟩, ?_⟩
        have hin : hld w (List.replicate (1 + u) p) s = true := by
          rw [Nat.add_comm]
          refine hld_t.mpr ⟨r ||| 2 ^ j, okr_t.mpr ⟨fun z => ?_, q1, by omega, by rw [q2]; exact u2.1⟩⟩
          have := sub_le (sub_r (a := r) (b := 2 ^ j))
          have := Nat.two_pow_pos j
          omega
        obtain ⟨y, hy⟩ : ∃ y : Nat, (if (v : Int) < 1 + (u : Int) then 1 + (u : Int) else (v : Int)) = (y : Int) ∧ v ≤ y ∧ 1 + u ≤ y ∧ (y = v ∨ y = 1 + u) := by
          by_cases hc : (v : Int) < 1 + (u : Int)
          · exact ⟨1 + u, by rw [if_pos hc]; omega, by omega, by omega, Or.inr rfl⟩
          · exact ⟨v, by rw [if_neg hc], by omega, by omega, Or.inl rfl⟩
        rw [hy.1]
        obtain ⟨n1, n2⟩ := next y (by omega) (by rcases hy.2.2.2 with q | q <;> rw [q] <;> assumption) hy.2.1 (fun _ => hy.2.2.1)
        refine ⟨fun hr0 => ⟨⟨by omega, by omega⟩, ?_⟩, fun hr0 => n2 (by omega)⟩
        rw [en (by omega)]
        exact n1 (by omega)
  refine key o sub_rf v0 (Nat.le_refl _) low0 fun x u hx hxo => ?_
  have := sub_le hxo
  omega
theorem ok_mostBound {p t : Nat} {w : WT} (hd : 2 ≤ d) (hS : ShX M) (hT : TB M w) (hW : WOk w) (ht : t < 2 ^ w 0 0) (hp : 1 ≤ p) (hp2 : p ≤ 90) (kk : ∀ M' v, Ch (fun q => q = 93) M M' → MX w p t v → Q (some (vI (v : Nat))) M') : Ok G mX3_mostBound d 0 0 [vR 87, vI p, vI t] M Q := by
  obtain ⟨d, rfl⟩ : ∃ e, d = e + 1 := ⟨d - 1, by omega⟩
  refine Ok_of rfl (Nat.le_of_ble_eq_true rfl) rfl ?_
  have hpw := pow_le hW
  refine bX3_mostBound_0 _ _ hS ?_
  refine down (fun i => ∀ M', Ch (fun q => q = 93) M M' → MK M' w p t i → Wp G mX3_mostBound (d + 1) 0 0 2 [some (vR 87), some (vI p), some (vI t), some (vI (i : Int))] [] M' 0 0 Q) (n := 2 ^ w 0 0) ?_ ?_ 0 (Nat.zero_le _) M Ch.rf (fun s hs => absurd hs (Nat.not_lt_zero s))
  · intro M' hc hK
    have hT' : TB M' w := hT.of fun q hq j => hc.2.2 q j (by unfold Ptb at hq; omega)
    refine bX3_mostBound_2 _ _ _ (hS.ch hc) ⟨fun _ => ok_mostKnown (hS.ch hc) (by omega) ⟨_, rfl, hS.ch hc, ?_⟩, fun h => absurd (by rw [hT'.1]; exact Int.le_refl _) h⟩
    obtain ⟨v, v1, v2⟩ := hK t ht sub_rf
    rw [v1]
    exact kk M' v hc v2
  · intro i hi ih M' hc hK
    have hT' : TB M' w := hT.of fun q hq j => hc.2.2 q j (by unfold Ptb at hq; omega)
    have r32 : R32 ((i : Int) + 1) := ⟨by omega, by omega⟩
    refine bX3_mostBound_2 _ _ _ (hS.ch hc) ⟨fun h => absurd h (by rw [hT'.1]; omega), fun _ => ⟨fun h => absurd h (by omega), fun _ => ?_⟩⟩
    rw [ind_n (by omega)]
    refine ⟨fun hns => ⟨r32, ih M' hc fun s hs hst => ?_⟩, fun hsb => ?_⟩
    · rcases Nat.lt_or_ge s i with q | q
      · exact hK s q hst
      · rw [show s = i by omega] at hst
        exact absurd (by rw [sub_nd.mpr hst]; rfl) hns
    · have hst : sub i t := sub_nd.mp (by omega)
      refine ok_mostOutOf (by omega) (hS.ch hc) hT' hW hi hst hp hp2 hK (Nat.le_refl i) fun v hv => ⟨_, rfl, hS.ch hc, ⟨by omega, by omega⟩, ?_⟩
      rintro _ rfl
      rw [Int.toNat_natCast]
      refine ⟨r32, ih _ (hc.st rfl) fun s hs hst => ?_⟩
      by_cases he : s = i
      · exact ⟨v, by rw [he, gI_same], by rw [he]; exact hv⟩
      · rw [gI_ne _ _ (by omega)]
        exact hK s (by omega) hst
end MORE
