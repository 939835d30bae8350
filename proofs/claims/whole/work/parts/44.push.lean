/-! ===== push and pop ===== -/
theorem SV.eq {M M' : MM} {q : Nat} {s : WT} (h : SV M q s) (e : ∀ r j, Pst q r → gI M' r j = gI M r j) : SV M' q s :=
  ⟨fun b hb => ⟨(e _ b (Or.inr (Or.inl rfl))).trans (h.1 b hb).1, (e _ b (Or.inr (Or.inr (Or.inl rfl)))).trans (h.1 b hb).2.1, (e _ b (Or.inr (Or.inr (Or.inr rfl)))).trans (h.1 b hb).2.2⟩, (e q 0 (Or.inl rfl)).trans h.2⟩
section PUSH
variable {G : GG} {M : MM} {d : Nat} {Q : Option AV → MM → Prop}
theorem pushc {p n : Nat} {f : Nat → WT} {s : WT} (hk : kd p = 2) (hS : ShX M) (hP : PV M p n f) (hn : n < ln (p + 1)) (hV : SV M 35 s) (kk : ∀ M', ShX M' → ChP p M M' → PV M' p (n + 1) (fun i => if i = n then s else f i) → Q none M') :
    ((gI M p 1) < 0 → (Q none M)) ∧ (¬ ((gI M p 1) < 0) → (((ln (p + 1) : Int) ≤ (gI M p 1) → (Q none M)) ∧ (¬ ((ln (p + 1) : Int) ≤ (gI M p 1)) → (((0 : Int) ≤ gI M p 1 ∧ (gI M p 1 : Int) < (ln (p + 1) : Int)) ∧
    ((Ok G mX5_copyFrom d 0 0 [vR (gR M (p + 1) (gI M p 1).toNat), vR 35] M (fun v M7 => v = none ∧ ShX M7 ∧ (R32 ((gI M7 p 1) + 1) ∧ (∀ M8 : MM, M8 = stI M7 p 1 ((gI M7 p 1) + 1) → (Q none M8)))))))))) := by
  have hl := ln_pile hk
  obtain ⟨hr, h1, h2, h3⟩ := hP
  have hq := hr.1 n hn
  have hq5 : kd (gR M (p + 1) n) = 5 := xst hS (k2 hk) hn
  have hne := hr.2
  refine ⟨fun h => absurd h (by omega), fun _ => ⟨fun h => absurd h (by omega), fun _ => ⟨⟨by omega, by omega⟩, ?_⟩⟩⟩
  rw [h1, Int.toNat_natCast]
  refine ok_copyFrom hq5 rfl hS (by omega) hV fun M7 c hV7 => ⟨rfl, hS.ch c, ?_⟩
  have e1 : gI M7 p 1 = (n : Nat) := (c.2.2 p 1 (by unfold Pst; omega)).trans h1
  rw [e1]
  refine ⟨⟨by omega, by omega⟩, ?_⟩
  rintro _ rfl
  have hg : ∀ q j, gR (stI M7 p 1 ((n : Int) + 1)) q j = gR M q j := fun q j => by
    show M7.2.2 q j = M.2.2 q j
    rw [c.2.1]
  refine kk _ ((hS.ch c).of rfl) ⟨c.1, fun q j _ => hg q j, fun q j hq2 => ?_⟩ ⟨⟨fun i hi => by rw [hg]; exact hr.1 i hi, fun i j hi hj hij => by rw [hg, hg]; exact hne i j hi hj hij⟩, by rw [gI_same]; rfl, by omega, fun i hi => ?_⟩
  · rw [gI_ne _ _ (fun z => hq2 (Or.inl z.1))]
    refine c.2.2 q j fun z => hq2 ?_
    unfold Pst at z
    unfold Ppi
    omega
  · rw [hg]
    have hi2 : i < ln (p + 1) := by omega
    have hqi := hr.1 i hi2
    show SV _ _ (if i = n then s else f i)
    by_cases hin : i = n
    · rw [if_pos hin, hin]
      exact hV7.eq fun r j hrr => gI_ne _ _ (by unfold Pst at hrr; omega)
    · rw [if_neg hin]
      have hv := (h3 i (by omega)).of hq5 (xst hS (k2 hk) hi2) (hne n i hn hi2 (by omega)) c
      exact hv.eq fun r j hrr => gI_ne _ _ (by unfold Pst at hrr; omega)
theorem ok_push {p n : Nat} {f : Nat → WT} {s : WT} (hd : 1 ≤ d) (hk : kd p = 2) (hS : ShX M) (hP : PV M p n f) (hV : SV M 35 s) (kk : ∀ M', ShX M' → ChP p M M' → PV M' p (pshn n (ln (p + 1))) (psh n (ln (p + 1)) f s) → Q none M') : Ok G mX2_push d 0 0 [vR p, vR 35] M Q := by
  obtain ⟨d, rfl⟩ : ∃ e, d = e + 1 := ⟨d - 1, by omega⟩
  refine Ok_of rfl (Nat.le_of_ble_eq_true rfl) rfl ?_
  have hl := ln_pile hk
  have h1 := hP.2.1
  have h2 := hP.2.2.1
  refine bX2_push_0 _ hk _ rfl hS ⟨fun hlt => ?_, fun hge => ?_⟩
  · have hn : n < ln (p + 1) := by omega
    refine pushc hk hS hP hn hV fun M' hS' c hP' => kk M' hS' c ?_
    have e1 : pshn n (ln (p + 1)) = n + 1 := if_pos hn
    have e2 : psh n (ln (p + 1)) f s = fun i => if i = n then s else f i := funext fun i => if_pos hn
    rw [e1, e2]
    exact hP'
  · have hn : n = ln (p + 1) := by omega
    refine ok_forgetOldest hk hS fun M9 hS9 c9 g1 g2 g3 g4 => ⟨rfl, hS9, ?_⟩
    obtain ⟨hr, -, -, h3⟩ := hP
    have gall : ∀ i, i < ln (p + 1) → gR M9 (p + 1) i = gR M (p + 1) (if i + 1 < ln (p + 1) then i + 1 else 0) := fun i hi => by
      by_cases q : i + 1 < ln (p + 1)
      · rw [if_pos q]; exact g3 i q
      · rw [if_neg q, show i = ln (p + 1) - 1 by omega]; exact g4
    have hP9 : PV M9 p (ln (p + 1) - 1) (fun i => f (i + 1)) := by
      refine ⟨⟨fun i hi => ?_, fun i j hi hj hij => ?_⟩, g1, by omega, fun i hi => ?_⟩
      · rw [gall i hi]
        exact hr.1 _ (by split <;> omega)
      · rw [gall i hi, gall j hj]
        exact hr.2 _ _ (by split <;> omega) (by split <;> omega) (by split <;> split <;> omega)
      · rw [g3 i (by omega)]
        have hqi := hr.1 (i + 1) (by omega)
        exact (h3 (i + 1) (by omega)).eq fun r j hrr => g2 r j (by unfold Pst at hrr; omega)
    have hV9 : SV M9 35 s := hV.eq fun r j hrr => g2 r j (by unfold Pst at hrr; omega)
    refine pushc hk hS9 hP9 (by omega) hV9 fun M' hS' c hP' => kk M' hS' (c9.tr c) ?_
    have e1 : pshn n (ln (p + 1)) = ln (p + 1) - 1 + 1 := by
      unfold pshn
      rw [if_neg (by omega)]
      omega
    have e2 : psh n (ln (p + 1)) f s = fun i => if i = ln (p + 1) - 1 then s else f (i + 1) := funext fun i => by
      unfold psh
      rw [if_neg (by omega)]
      by_cases q : i + 1 = ln (p + 1)
      · rw [if_pos q, if_pos (by omega)]
      · rw [if_neg q, if_neg (by omega)]
    rw [e1, e2]
    exact hP'
theorem ok_popInto {p n : Nat} {f : Nat → WT} (hd : 1 ≤ d) (hk : kd p = 2) (hS : ShX M) (hP : PV M p n f) (k0 : n = 0 → Q (some (vI 0)) M)
    (k1 : ∀ m M', n = m + 1 → ShX M' → Ch (fun q => Pst 35 q ∨ q = p) M M' → PV M' p m f → SV M' 35 (f m) → Q (some (vI 1)) M') : Ok G mX2_popInto d 0 0 [vR p, vR 35] M Q := by
  obtain ⟨d, rfl⟩ : ∃ e, d = e + 1 := ⟨d - 1, by omega⟩
  refine Ok_of rfl (Nat.le_of_ble_eq_true rfl) rfl ?_
  have hl := ln_pile hk
  obtain ⟨hr, h1, h2, h3⟩ := hP
  refine bX2_popInto_0 _ hk _ rfl hS ?_
  rw [h1]
  refine ⟨⟨by omega, by omega⟩, fun h => k0 (by omega), fun h => ⟨fun h => absurd h (by omega), fun _ => ⟨⟨by omega, by omega⟩, ?_⟩⟩⟩
  obtain ⟨m, rfl⟩ : ∃ m, n = m + 1 := ⟨n - 1, by omega⟩
  have et : (((m + 1 : Nat) : Int) - 1) = (m : Int) := by omega
  rw [et, Int.toNat_natCast]
  have hm : m < ln (p + 1) := by omega
  have hqm := hr.1 m hm
  have hq5 : kd (gR M (p + 1) m) = 5 := xst hS (k2 hk) hm
  refine ok_copyFrom rfl hq5 hS (by omega) (h3 m (by omega)) fun M6 c hV6 => ⟨rfl, hS.ch c, ?_⟩
  rintro _ rfl
  have hg : ∀ q j, gR (stI M6 p 1 (m : Int)) q j = gR M q j := fun q j => by
    show M6.2.2 q j = M.2.2 q j
    rw [c.2.1]
  refine k1 m _ rfl ((hS.ch c).of rfl) ((c.mono fun q hq => Or.inl hq).st (Or.inr rfl)) ⟨⟨fun i hi => by rw [hg]; exact hr.1 i hi, fun i j hi hj hij => by rw [hg, hg]; exact hr.2 i j hi hj hij⟩, gI_same _ _ _ _, by omega, fun i hi => ?_⟩ (hV6.eq fun r j hrr => gI_ne _ _ (by unfold Pst at hrr; omega))
  rw [hg]
  have hqi := hr.1 i (by omega)
  have hv := (h3 i (by omega)).of (p := 35) rfl (xst hS (k2 hk) (by omega)) (by omega) c
  exact hv.eq fun r j hrr => gI_ne _ _ (by unfold Pst at hrr; omega)
end PUSH
