/-! ===== the Planner: the cheapest set that holds all loose beasts ===== -/
theorem dropc : ∀ {L : List Nat} {j : Nat}, j < L.length → L.drop j = L.getD j 0 :: L.drop (j + 1)
  | [], _, h => absurd h (Nat.not_lt_zero _)
  | _ :: _, 0, _ => rfl
  | _ :: L, j + 1, h => dropc (L := L) (j := j) (Nat.lt_of_succ_lt_succ h)
abbrev pls (w : WT) (L : List Nat) (j : Nat) : List Nat := (L.drop j).map (w 7)
theorem pls_c {w : WT} {L : List Nat} {j : Nat} (h : j < L.length) : pls w L j = w 7 (L.getD j 0) :: pls w L (j + 1) := by
  unfold pls
  rw [dropc h]
  rfl
theorem pls_e {w : WT} {L : List Nat} {j : Nat} (h : L.length ≤ j) : pls w L j = [] := by
  unfold pls
  rw [List.drop_eq_nil_of_le h]
  rfl
def PL (M : MM) (w : WT) (L : List Nat) : Prop := gI M 87 11 = (L.length : Nat) ∧ (∀ j, j < L.length → gI M 89 j = (L.getD j 0 : Nat) ∧ gI M 90 j = (w 7 (L.getD j 0) : Nat)) ∧ ∀ j, j < 5 → gI M 91 j = ((pls w L j).sum : Nat)
def LK (w : WT) (L : List Nat) : Prop := L.length ≤ 4 ∧ ∀ j, j < L.length → L.getD j 0 < w 0 3
def HB (M : MM) (w : WT) (L : List Nat) (t i : Nat) : Prop := ∀ s, s < i → sub s t → ∃ v : Nat, gI M 92 s = (v : Int) ∧ v < 32 ∧ ∀ j, j ≤ L.length → v.testBit j = hld w (pls w L j) s
def LoI (ok : Nat → Bool) (r v : Nat) : Prop := (v = 0 ∧ ∀ x, r < x → ok x = false) ∨ (r < v ∧ ok v = true ∧ ∀ x, r < x → x < v → ok x = false)
theorem LoI.no {w : WT} {p s r v : Nat} {ps : List Nat} (h : LoI (okr w p ps s) r v) (hr : sub r s) (h0 : r ≠ 0) (hf : okr w p ps s r = false) : LoI (okr w p ps s) ((r - 1) &&& s) v := by
  have key : ∀ x, (r - 1) &&& s < x → (r < x → okr w p ps s x = false) → okr w p ps s x = false := by
    intro x hx h1
    cases ho : okr w p ps s x
    · rfl
    · have hxs := (okr_t.mp ho).2.1
      rcases Nat.lt_or_ge x r with q | q
      · have := next_sub r hxs hr q
        omega
      · rcases Nat.lt_or_ge r x with q2 | q2
        · rw [h1 q2] at ho; cases ho
        · have : x = r := by omega
          rw [this, hf] at ho; cases ho
  have hl : (r - 1) &&& s ≤ r - 1 := Nat.and_le_left
  rcases h with ⟨e, h⟩ | ⟨h1, h2, h⟩
  · exact Or.inl ⟨e, fun x hx => key x hx (h x)⟩
  · exact Or.inr ⟨by omega, h2, fun x hx hxv => key x hx (fun z => h x z hxv)⟩
theorem LoI.yes {w : WT} {p s r : Nat} {ps : List Nat} (hr : sub r s) (h0 : r ≠ 0) (ht : okr w p ps s r = true) : LoI (okr w p ps s) ((r - 1) &&& s) r := by
  have hl : (r - 1) &&& s ≤ r - 1 := Nat.and_le_left
  refine Or.inr ⟨by omega, ht, fun x hx hxr => ?_⟩
  cases ho : okr w p ps s x
  · rfl
  · have := next_sub r (okr_t.mp ho).2.1 hr hxr
    omega
theorem okr_z {w : WT} {p s : Nat} {ps : List Nat} : okr w p ps s 0 = false := by
  cases h : okr w p ps s 0
  · rfl
  · exact absurd rfl (okr_t.mp h).1
theorem LoI.end {w : WT} {p s v : Nat} {ps : List Nat} (h : LoI (okr w p ps s) 0 v) : lor w p ps s = v := by
  refine lor_is ?_
  have z := okr_z (w := w) (p := p) (ps := ps) (s := s)
  rcases h with ⟨e, h⟩ | ⟨h1, h2, h⟩
  · refine Or.inl ⟨e, fun x => ?_⟩
    rcases Nat.eq_zero_or_pos x with q | q
    · rw [q]; exact z
    · exact h x q
  · refine Or.inr ⟨h2, fun x hx => ?_⟩
    rcases Nat.eq_zero_or_pos x with q | q
    · rw [q]; exact z
    · exact h x q hx
section PLAN
variable {G : GG} {M : MM} {d : Nat} {Q : Option AV → MM → Prop}
theorem ok_isHeldFrom {j s v : Nat} (hS : ShX M) (hs : s < 1024) (hv : gI M 92 s = (v : Int)) (hv2 : v < 32) (hj : j ≤ 4) (kk : Q (some (vI (if v.testBit j then 1 else 0))) M) : Ok G mX3_isHeldFrom d 0 0 [vR 87, vI j, vI s] M Q := by
  refine Ok_of rfl (Nat.le_of_ble_eq_true rfl) rfl ?_
  refine bX3_isHeldFrom_0 _ _ hS ⟨fun h => absurd h (by omega), fun _ => ⟨fun h => absurd h (by omega), fun _ => ⟨⟨by omega, by omega⟩, ?_⟩⟩⟩
  rw [Int.toNat_natCast, hv]
  have e := bit_1 (a := v) (k := j) (by omega) (by omega)
  refine ⟨fun h => ?_, fun h => ?_⟩
  · rwa [if_neg (fun z => h (e.mpr z))] at kk
  · rwa [if_pos (e.mp h)] at kk
theorem ok_lowestRibbon {j set t i : Nat} {w : WT} {L : List Nat} (hd : 1 ≤ d) (hS : ShX M) (hT : TB M w) (hW : WOk w) (hP : PL M w L) (hL : LK w L) (hj : j < L.length) (hs : set < 2 ^ w 0 0) (hst : sub set t) (hH : HB M w L t i) (hi : set ≤ i) (kk : Q (some (vI (lor w (w 7 (L.getD j 0)) (pls w L (j + 1)) set : Nat))) M) : Ok G mX3_lowestRibbon d 0 0 [vR 87, vI j, vI set] M Q := by
  obtain ⟨d, rfl⟩ : ∃ e, d = e + 1 := ⟨d - 1, by omega⟩
  refine Ok_of rfl (Nat.le_of_ble_eq_true rfl) rfl ?_
  have hl4 := hL.1
  have hpw := pow_le hW
  refine bX3_lowestRibbon_0 _ _ hS ⟨fun h => absurd h (by omega), fun _ => ⟨fun h => absurd h (by omega), fun _ => ⟨⟨by omega, by omega⟩, ?_⟩⟩⟩
  rw [Int.toNat_natCast, (hP.2.1 j hj).2]
  generalize hp : w 7 (L.getD j 0) = p at kk ⊢
  refine dsub (fun r => ∀ v : Nat, LoI (okr w p (pls w L (j + 1)) set) r v → Wp G mX3_lowestRibbon (d + 1) 0 0 26 [some (vR 87), some (vI j), some (vI set), some (vI p), some (vI (v : Int)), some (vI (r : Int))] [] M 0 0 Q) (s := set) ?_ ?_ 0 (Or.inl ⟨rfl, fun x hx => ?_⟩)
  · intro v hv
    refine bX3_lowestRibbon_26 _ _ _ _ _ hS ⟨fun _ => ?_, fun h => absurd (by omega) h⟩
    rw [hv.end] at kk
    exact kk
  · intro r h0 hr ih v hv
    have hr2 := sub_le hr
    have en : iandv ((r : Int) - 1) (set : Int) = (((r - 1) &&& set : Nat) : Int) := by
      rw [show ((r : Int) - 1) = ((r - 1 : Nat) : Int) by omega, iand_n (by omega)]
    have r32 : R32 ((r : Int) - 1) := ⟨by omega, by omega⟩
    refine bX3_lowestRibbon_26 _ _ _ _ _ hS ⟨fun h => absurd h (by omega), fun _ => ok_strengthOf hS hT hW (by omega) ⟨_, rfl, hS, ?_⟩⟩
    rw [en, ixor_n (by omega) (by omega), nd_xor hr]
    refine ⟨fun hlt => ⟨r32, ih v (hv.no hr h0 ?_)⟩, fun hge => ⟨⟨by omega, by omega⟩, ?_⟩⟩
    · cases ho : okr w p (pls w L (j + 1)) set r
      · rfl
      · have := (okr_t.mp ho).2.2.1
        omega
    · have hn := nd_lt_of hr h0
      obtain ⟨u, u1, u2, u3⟩ := hH (nd set r) (by omega) (sub_tr nd_sub hst)
      refine ok_isHeldFrom (j := j + 1) hS (by omega) u1 u2 (by omega) ⟨_, rfl, hS, ?_⟩
      rw [u3 (j + 1) (by omega)]
      cases hh : hld w (pls w L (j + 1)) (nd set r)
      · refine ⟨fun _ => ⟨r32, ih v (hv.no hr h0 ?_)⟩, fun h => absurd rfl h⟩
        cases ho : okr w p (pls w L (j + 1)) set r
        · rfl
        · rw [(okr_t.mp ho).2.2.2] at hh; cases hh
      · exact ⟨fun h => absurd h (by decide), fun _ => ⟨r32, ih r (LoI.yes hr h0 (okr_t.mpr ⟨h0, hr, by omega, hh⟩))⟩⟩
  · cases ho : okr w p (pls w L (j + 1)) set x
    · rfl
    · have := sub_le (okr_t.mp ho).2.1
      omega
theorem lowb_sub {s : Nat} (h : s < 1024) (h0 : s ≠ 0) : sub (lowb s) s := fun i hi => by
  have e := ((low_all s h).2.2.2.2.2.1 h0).2.2
  rw [← e, Nat.testBit_and] at hi
  cases hs : s.testBit i
  · rw [hs] at hi; cases hi
  · rfl
theorem ok_smallerHoldsFrom {j set t i : Nat} {w : WT} {L : List Nat} (hd : 1 ≤ d) (hS : ShX M) (hW : WOk w) (hL : LK w L) (hj : j < L.length) (hs : set < 2 ^ w 0 0) (hst : sub set t) (hH : HB M w L t i) (hi : set ≤ i) (k1 : hld w (pls w L j) set = true → Q (some (vI 1)) M) (k0 : Q (some (vI 0)) M) : Ok G mX3_smallerHoldsFrom d 0 0 [vR 87, vI j, vI set] M Q := by
  obtain ⟨d, rfl⟩ : ∃ e, d = e + 1 := ⟨d - 1, by omega⟩
  refine Ok_of rfl (Nat.le_of_ble_eq_true rfl) rfl ?_
  have hl4 := hL.1
  have hpw := pow_le hW
  refine bX3_smallerHoldsFrom_0 _ _ hS ?_
  have key : ∀ x : Nat, sub x set → Wp G mX3_smallerHoldsFrom (d + 1) 0 0 2 [some (vR 87), some (vI j), some (vI set), some (vI (x : Int))] [] M 0 0 Q := by
    intro x
    induction x using Nat.strongRecOn with
    | _ x ih =>
      intro hx
      have hx2 := sub_le hx
      by_cases h0 : x = 0
      · exact bX3_smallerHoldsFrom_2 _ _ _ hS ⟨fun _ => k0, fun h => absurd (by omega) h⟩
      · have la := low_all x (by omega)
        obtain ⟨l1, l2, l3⟩ := la.2.2.2.2.2.1 h0
        have hlx := lowb_sub (by omega) h0
        have hls := sub_tr hlx hx
        have hle := sub_le hls
        have hnl := nd_lt_of hls l1
        obtain ⟨u, u1, u2, u3⟩ := hH (nd set (lowb x)) (by omega) (sub_tr nd_sub hst)
        refine bX3_smallerHoldsFrom_2 _ _ _ hS ⟨fun h => absurd h (by omega), fun _ => ⟨⟨by omega, by omega⟩, ?_⟩⟩
        rw [la.1, la.2.1, ixor_n (by omega) (by omega), nd_xor hls]
        refine ok_isHeldFrom hS (by omega) u1 u2 (by omega) ⟨_, rfl, hS, ?_⟩
        rw [u3 j (by omega)]
        cases hh : hld w (pls w L j) (nd set (lowb x))
        · refine ⟨fun _ => ⟨⟨by omega, by omega⟩, ih _ l2 ?_⟩, fun h => absurd rfl h⟩
          rw [nd_xor hlx]
          exact sub_tr nd_sub hx
        · exact ⟨fun h => absurd h (by decide), fun _ => k1 (hld_mono nd_sub hh)⟩
  exact key set sub_rf
theorem ok_canHoldFrom {j set t i : Nat} {w : WT} {L : List Nat} (hd : 2 ≤ d) (hS : ShX M) (hT : TB M w) (hW : WOk w) (hP : PL M w L) (hL : LK w L) (hj : j < L.length) (hs : set < 2 ^ w 0 0) (hst : sub set t) (hH : HB M w L t i) (hi : set ≤ i) (kk : Q (some (vI (if hld w (pls w L j) set then 1 else 0))) M) : Ok G mX3_canHoldFrom d 0 0 [vR 87, vI j, vI set] M Q := by
  obtain ⟨d, rfl⟩ : ∃ e, d = e + 1 := ⟨d - 1, by omega⟩
  refine Ok_of rfl (Nat.le_of_ble_eq_true rfl) rfl ?_
  have hl4 := hL.1
  refine bX3_canHoldFrom_0 _ _ hS ⟨fun h => absurd h (by omega), fun _ => ⟨fun h => absurd h (by omega), fun _ => ok_strengthOf hS hT hW hs ⟨_, rfl, hS, ⟨by omega, by omega⟩, ?_⟩⟩⟩
  rw [Int.toNat_natCast, hP.2.2 j (by omega)]
  refine ⟨fun hle => ?_, fun hgt => ?_⟩
  · refine ok_smallerHoldsFrom (by omega) hS hW hL hj hs hst hH hi (fun hh => ⟨_, rfl, hS, fun _ => ?_, fun h => absurd h (by decide)⟩) ⟨_, rfl, hS, fun h => absurd rfl h, fun _ => ?_⟩
    · rw [hh] at kk; exact kk
    · refine ok_lowestRibbon (by omega) hS hT hW hP hL hj hs hst hH hi ⟨_, rfl, hS, fun h => ?_, fun h => ?_⟩
      · have : ¬ hld w (pls w L j) set = true := by
          rw [pls_c hj]
          exact fun z => lor_0.mpr z (by omega)
        rw [if_neg this] at kk; exact kk
      · have : hld w (pls w L j) set = true := by
          rw [pls_c hj]
          exact lor_0.mp (by omega)
        rw [if_pos this] at kk; exact kk
  · have : ¬ hld w (pls w L j) set = true := fun z => hgt (by have := hld_sum z; omega)
    rw [if_neg this] at kk; exact kk
theorem ok_whoIsHeldBy {set t i : Nat} {w : WT} {L : List Nat} (hd : 3 ≤ d) (hS : ShX M) (hT : TB M w) (hW : WOk w) (hP : PL M w L) (hL : LK w L) (hs : set < 2 ^ w 0 0) (hst : sub set t) (hH : HB M w L t i) (hi : set ≤ i) (kk : ∀ v : Nat, v < 32 → (∀ j, j ≤ L.length → v.testBit j = hld w (pls w L j) set) → Q (some (vI v)) M) : Ok G mX3_whoIsHeldBy d 0 0 [vR 87, vI set] M Q := by
  obtain ⟨d, rfl⟩ : ∃ e, d = e + 1 := ⟨d - 1, by omega⟩
  refine Ok_of rfl (Nat.le_of_ble_eq_true rfl) rfl ?_
  have hl4 := hL.1
  refine bX3_whoIsHeldBy_0 _ hS ?_
  rw [hP.1]
  refine ⟨⟨by omega, by omega⟩, ?_⟩
  rw [ishl_1 (by omega)]
  have key : ∀ k : Nat, k ≤ L.length → ∀ v : Nat, v < 2 ^ 5 → (∀ j, k ≤ j → j ≤ L.length → v.testBit j = hld w (pls w L j) set) → (∀ j, j < k → v.testBit j = false) → Wp G mX3_whoIsHeldBy (d + 1) 0 0 14 [some (vR 87), some (vI set), some (vI (v : Int)), some (vI ((k : Int) - 1))] [] M 0 0 Q := by
    intro k
    induction k with
    | zero =>
      intro _ v hv h1 _
      exact bX3_whoIsHeldBy_14 _ _ _ hS ⟨fun _ => kk v hv (fun j => h1 j (Nat.zero_le _)), fun h => absurd (by omega) h⟩
    | succ k ih =>
      intro hk v hv h1 h2
      rw [show (((k + 1 : Nat) : Int) - 1) = (k : Int) by omega]
      refine bX3_whoIsHeldBy_14 _ _ _ hS ⟨fun h => absurd h (by omega), fun _ => ok_canHoldFrom (by omega) hS hT hW hP hL (by omega) hs hst hH hi ⟨_, rfl, hS, ?_⟩⟩
      cases hh : hld w (pls w L k) set
      · refine ⟨fun _ => ⟨⟨by omega, by omega⟩, ?_⟩, fun h => absurd rfl h⟩
        refine ih (by omega) v hv (fun j hj hj2 => ?_) (fun j hj => h2 j (by omega))
        rcases Nat.lt_or_ge k j with q | q
        · exact h1 j (by omega) hj2
        · rw [show j = k by omega, hh]; exact h2 k (by omega)
      · refine ⟨fun h => absurd h (by decide), fun _ => ⟨⟨by omega, by omega⟩, ?_⟩⟩
        rw [ishl_1 (by omega), ior_n (by omega) (by have : 2 ^ k < 2 ^ 5 := Nat.pow_lt_pow_right (by decide) (by omega); omega)]
        refine ih (by omega) _ (or_lt hv (Nat.pow_lt_pow_right (by decide) (by omega))) (fun j hj hj2 => ?_) (fun j hj => ?_)
        · rw [Nat.testBit_or, two_pow_bit]
          rcases Nat.lt_or_ge k j with q | q
          · rw [h1 j (by omega) hj2, decide_eq_false (by omega), Bool.or_false]
          · rw [show j = k by omega, hh, decide_eq_true rfl, Bool.or_true]
        · rw [Nat.testBit_or, two_pow_bit, h2 j (by omega), decide_eq_false (by omega)]; rfl
  refine key L.length (Nat.le_refl _) _ (Nat.pow_lt_pow_right (by decide) (by omega)) (fun j hj hj2 => ?_) (fun j hj => ?_)
  · rw [two_pow_bit, decide_eq_true (by omega), pls_e hj]; rfl
  · rw [two_pow_bit, decide_eq_false (by omega)]
end PLAN
