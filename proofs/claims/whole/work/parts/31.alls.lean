/-! ===== the Planner: the loose beasts, the whole search, the sharing out ===== -/
def lse (s : WT) (n : Nat) : List Nat := (List.range n).filter (fun b => s 0 b == 0)
theorem lse_s {s : WT} {n : Nat} : lse s (n + 1) = lse s n ++ (if s 0 n = 0 then [n] else []) := by
  unfold lse
  rw [List.range_succ, List.filter_append]
  congr 1
  by_cases h : s 0 n = 0
  · rw [if_pos h, List.filter_cons_of_pos (by simp [h])]; rfl
  · rw [if_neg h, List.filter_cons_of_neg (by simp [h])]; rfl
theorem lse_le {s : WT} : ∀ n, (lse s n).length ≤ n
  | 0 => Nat.le_refl 0
  | n + 1 => by
    have := lse_le (s := s) n
    rw [lse_s, List.length_append]
    split <;> simp <;> omega
theorem lse_in {s : WT} {n b : Nat} : b ∈ lse s n ↔ b < n ∧ s 0 b = 0 := by
  unfold lse
  rw [List.mem_filter, List.mem_range]
  simp
theorem lse_nd {s : WT} {n : Nat} : (lse s n).Nodup := List.Pairwise.filter _ List.nodup_range
theorem getD_in : ∀ {L : List Nat} {j : Nat}, j < L.length → L.getD j 0 ∈ L
  | [], _, h => absurd h (Nat.not_lt_zero _)
  | _ :: _, 0, _ => List.mem_cons_self ..
  | _ :: L, j + 1, h => List.mem_cons_of_mem _ (getD_in (L := L) (j := j) (Nat.lt_of_succ_lt_succ h))
theorem getD_app {A B : List Nat} {j : Nat} (h : j < A.length) : (A ++ B).getD j 0 = A.getD j 0 := by
  rw [List.getD_eq_getElem?_getD, List.getD_eq_getElem?_getD, List.getElem?_append_left h]
theorem getD_last {A : List Nat} {b : Nat} : (A ++ [b]).getD A.length 0 = b := by
  rw [List.getD_eq_getElem?_getD, List.getElem?_append_right (Nat.le_refl _), Nat.sub_self]
  rfl
theorem lse_LK {w s : WT} (hW : WOk w) : LK w (lse s (w 0 3)) := ⟨Nat.le_trans (lse_le _) hW.1.2.2.2.1, fun _ hj => (lse_in.mp (getD_in hj)).1⟩
/-- what the sharing out gives to a beast -/
def aof (w : WT) : List Nat → Nat → Nat → Nat
  | [], _, _ => 0
  | c :: cs, u, b => if b = c then lor w (w 7 c) (cs.map (w 7)) u else aof w cs (nd u (lor w (w 7 c) (cs.map (w 7)) u)) b
theorem aof_no {w : WT} : ∀ {L : List Nat} {u b : Nat}, b ∉ L → aof w L u b = 0 := by
  intro L
  induction L with
  | nil => intro _ _ _; rfl
  | cons c cs ih =>
    intro u b h
    show (if b = c then _ else _) = 0
    rw [if_neg (fun z => h (by rw [z]; exact List.mem_cons_self ..))]
    exact ih fun z => h (List.mem_cons_of_mem _ z)
theorem lor_sub {w : WT} {p s : Nat} {ps : List Nat} : sub (lor w p ps s) s := by
  by_cases h : lor w p ps s = 0
  · rw [h]; intro i hi; rw [Nat.zero_testBit] at hi; cases hi
  · exact (okr_t.mp (lor_ok h)).2.1
def alP (w : WT) (g : Nat) (ps : List Nat) (n : Nat) : Bool := decide (nd n (thr w g) = 0) && hld w ps n
theorem alP_t {w : WT} {g n : Nat} {ps : List Nat} : alP w g ps n = true ↔ sub n (thr w g) ∧ hld w ps n = true := by
  unfold alP
  rw [Bool.and_eq_true, decide_eq_true_iff, sub_nd]
theorem alP_f {w : WT} {g n : Nat} {ps : List Nat} (h : ¬ (sub n (thr w g) ∧ hld w ps n = true)) : alP w g ps n = false := by
  cases e : alP w g ps n
  · rfl
  · exact absurd (alP_t.mp e) h
section ALLS
variable {G : GG} {M : MM} {d : Nat} {Q : Option AV → MM → Prop}
def Ppl : Nat → Prop := fun q => 87 ≤ q ∧ q ≤ 93
theorem PL.of {M M' : MM} {w : WT} {L : List Nat} (h : PL M w L) (e : ∀ q j, (q = 87 ∧ j = 11) ∨ q = 89 ∨ q = 90 ∨ q = 91 → gI M' q j = gI M q j) : PL M' w L :=
  ⟨(e 87 11 (by omega)).trans h.1, fun j hj => ⟨(e 89 j (by omega)).trans (h.2.1 j hj).1, (e 90 j (by omega)).trans (h.2.1 j hj).2⟩, fun j hj => (e 91 j (by omega)).trans (h.2.2 j hj)⟩
theorem HB.of {M M' : MM} {w : WT} {L : List Nat} {t i : Nat} (h : HB M w L t i) (e : ∀ j, j < i → gI M' 92 j = gI M 92 j) : HB M' w L t i := fun s hs hst => by
  rw [e s hs]
  exact h s hs hst
theorem ok_listLoose {p pw : Nat} {w s : WT} (hd : 2 ≤ d) (hk : kd p = 5) (hkw : kd pw = 7) (hS : ShX M) (hw : CW M pw w) (hW : WOk w) (hV : SV M p s) (kk : ∀ M', Ch Ppl M M' → PL M' w (lse s (w 0 3)) → Q none M') : Ok G mX3_listLoose d 0 0 [vR 87, vR pw, vR p] M Q := by
  obtain ⟨d, rfl⟩ : ∃ e, d = e + 1 := ⟨d - 1, by omega⟩
  refine Ok_of rfl (Nat.le_of_ble_eq_true rfl) rfl ?_
  have hn4 := hW.1.2.2.2.1
  have hp := k5_at hk
  have hpw := k7_at hkw
  have hcx : cix 7 = 3 := rfl
  refine bX3_listLoose_0 _ hkw _ hk hS ?_
  rintro _ rfl
  refine down (fun i => ∀ M', Ch Ppl M M' → gI M' 87 11 = ((lse s i).length : Nat) → (∀ j, j < (lse s i).length → gI M' 89 j = ((lse s i).getD j 0 : Nat) ∧ gI M' 90 j = (w 7 ((lse s i).getD j 0) : Nat)) → Wp G mX3_listLoose (d + 1) 0 0 7 [some (vR 87), some (vR pw), some (vR p), some (vI (i : Int)), none] [] M' 0 0 Q) (n := w 0 3) ?_ ?_ 0 (Nat.zero_le _) _ (Ch.rf.st (show Ppl 87 from ⟨by omega, by omega⟩)) (gI_same _ _ _ _) (fun j hj => absurd hj (Nat.not_lt_zero j))
  · intro M' hc h1 h2
    have hw' : CW M' pw w := hw.of fun q hq j => hc.2.2 q j (by unfold Pwo at hq; unfold Ppl; omega)
    refine bX3_listLoose_7 _ hkw _ hk _ (hS.ch hc) ⟨fun _ => ?_, fun h => absurd (by rw [hw'.1 3 (by decide)]; exact Int.le_refl _) h⟩
    have hLK := lse_LK (s := s) hW
    generalize hL : lse s (w 0 3) = L at *
    have hl4 := hLK.1
    have key : ∀ k : Nat, k ≤ 5 → ∀ M2, Ch Ppl M' M2 → (∀ q j, q = 87 ∨ q = 89 ∨ q = 90 → gI M2 q j = gI M' q j) → (∀ j, k ≤ j → j < 5 → gI M2 91 j = ((pls w L j).sum : Nat)) → Wp G mX3_listLoose (d + 1) 0 0 76 [some (vR 87), none, none, some (vI ((pls w L k).sum : Nat)), some (vI ((k : Int) - 1))] [] M2 0 0 Q := by
      intro k
      induction k with
      | zero =>
        intro _ M2 hc2 e1 e2
        refine bX3_listLoose_76 _ _ (hS.ch (hc.tr hc2)) ⟨fun _ => kk M2 (hc.tr hc2) ⟨(e1 87 11 (by omega)).trans h1, fun j hj => ⟨(e1 89 j (by omega)).trans (h2 j hj).1, (e1 90 j (by omega)).trans (h2 j hj).2⟩, fun j hj => e2 j (Nat.zero_le _) hj⟩, fun h => absurd (by omega) h⟩
      | succ k ih =>
        intro hk5 M2 hc2 e1 e2
        rw [show (((k + 1 : Nat) : Int) - 1) = (k : Int) by omega]
        have hsm : (pls w L (k + 1)).sum ≤ 360 := by
          have : ∀ l : List Nat, (∀ x ∈ l, x ≤ 90) → l.sum ≤ l.length * 90 := by
            intro l
            induction l with
            | nil => intro _; simp
            | cons a l ih =>
              intro h
              have := ih fun x hx => h x (List.mem_cons_of_mem _ hx)
              have := h a (List.mem_cons_self ..)
              rw [List.sum_cons, List.length_cons]
              omega
          have h3 := this (pls w L (k + 1)) fun x hx => by
            obtain ⟨b, hb, rfl⟩ := List.mem_map.mp hx
            have hb2 := List.mem_of_mem_drop hb
            rw [← hL] at hb2
            exact (hW.2.2.2.2.1 b (lse_in.mp hb2).1).2
          have h4 : (pls w L (k + 1)).length ≤ 4 := by
            unfold pls
            rw [List.length_map, List.length_drop]
            omega
          omega
        have nxt : ∀ x : Int, x = ((pls w L k).sum : Nat) → Wp G mX3_listLoose (d + 1) 0 0 76 [some (vR 87), none, none, some (vI x), some (vI ((k : Int) + (-1)))] [] (stI M2 91 k x) 0 0 Q := by
          intro x hx
          rw [show ((k : Int) + (-1)) = (k : Int) - 1 by omega, hx]
          refine ih (by omega) _ (hc2.st (show Ppl 91 from ⟨by omega, by omega⟩)) (fun q j hq => (gI_ne _ _ (by omega)).trans (e1 q j hq)) (fun j hj hj2 => ?_)
          rcases Nat.lt_or_ge k j with q | q
          · rw [gI_ne _ _ (by omega)]; exact e2 j (by omega) hj2
          · rw [show j = k by omega, gI_same]
        have el := e1 87 11 (by omega)
        rw [h1] at el
        refine bX3_listLoose_76 _ _ (hS.ch (hc.tr hc2)) ⟨fun h => absurd h (by omega), fun _ => ⟨fun h => ?_, fun h => ⟨fun h2 => absurd h2 (by omega), fun _ => ⟨⟨by omega, by omega⟩, ?_⟩⟩⟩⟩
        · refine ⟨⟨by omega, by omega⟩, ⟨by omega, by omega⟩, ?_⟩
          rintro _ rfl
          rw [Int.toNat_natCast]
          refine ⟨⟨by omega, by omega⟩, nxt _ ?_⟩
          rw [pls_e (show L.length ≤ k + 1 by omega), pls_e (show L.length ≤ k by omega)]
          rfl
        · have hkl : k < L.length := by omega
          rw [Int.toNat_natCast, e1 90 k (by omega), (h2 k hkl).2]
          have hb7 := (hW.2.2.2.2.1 _ (hLK.2 k hkl)).2
          refine ⟨⟨by omega, by omega⟩, ⟨by omega, by omega⟩, ?_⟩
          rintro _ rfl
          refine ⟨⟨by omega, by omega⟩, nxt _ ?_⟩
          rw [pls_c hkl, List.sum_cons]
          omega
    have := key 5 (Nat.le_refl _) M' Ch.rf (fun _ _ _ => rfl) (fun j h1 h2 => absurd h1 (by omega))
    rw [pls_e (show L.length ≤ 5 by omega)] at this
    exact this
  · intro i hi ih M' hc h1 h2
    have hw' : CW M' pw w := hw.of fun q hq j => hc.2.2 q j (by unfold Pwo at hq; unfold Ppl; omega)
    have hS' := hS.ch hc
    have hle := lse_le (s := s) i
    refine bX3_listLoose_7 _ hkw _ hk _ hS' ⟨fun h => absurd h (by rw [hw'.1 3 (by decide)]; omega), fun _ => ⟨fun h => absurd h (by omega), fun _ => ok_isBound (by omega) hk hS' ⟨_, rfl, hS', ?_⟩⟩⟩
    rw [if_pos (show (0 : Int) ≤ i ∧ (i : Int) < 4 by omega), Int.toNat_natCast, hc.2.2 (p + 1) i (by unfold Ppl; omega), (hV.1 i (by omega)).1]
    by_cases h0 : s 0 i = 0
    · rw [h0]
      refine ⟨fun h => absurd rfl h, fun _ => ⟨⟨by omega, by omega⟩, ?_⟩⟩
      rintro _ rfl
      have c2 := hc.st (p := 89) (k := (gI M' 87 11).toNat) (x := (i : Int)) (show Ppl 89 from ⟨by omega, by omega⟩)
      have hw2 : CW (stI M' 89 (gI M' 87 11).toNat (i : Int)) pw w := hw.of fun q hq j => c2.2.2 q j (by unfold Pwo at hq; unfold Ppl; omega)
      refine ok_pullOfBeast (by omega) hkw (hS.ch c2) hw2 hW hi ⟨_, rfl, hS.ch c2, ?_⟩
      rw [gI_ne _ _ (by omega), h1, Int.toNat_natCast]
      refine ⟨⟨by omega, by omega⟩, ?_⟩
      rintro _ rfl
      rw [gI_ne _ _ (by omega), gI_ne _ _ (by omega), h1]
      refine ⟨⟨by omega, by omega⟩, ?_⟩
      rintro _ rfl
      refine ⟨⟨by omega, by omega⟩, ih _ (((hc.st (show Ppl 89 from ⟨by omega, by omega⟩)).st (show Ppl 90 from ⟨by omega, by omega⟩)).st (show Ppl 87 from ⟨by omega, by omega⟩)) ?_ ?_⟩
      · rw [gI_same, lse_s, if_pos h0, List.length_append]
        rfl
      · rw [lse_s, if_pos h0]
        intro j hj
        rw [List.length_append] at hj
        have hj : j < (lse s i).length + 1 := hj
        rcases Nat.lt_or_ge j (lse s i).length with q | q
        · rw [gI_ne _ _ (by omega), gI_ne _ _ (by omega), gI_ne _ _ (by omega), gI_ne _ _ (by omega), gI_ne _ _ (by omega), gI_ne _ _ (by omega), getD_app q]
          exact h2 j q
        · rw [show j = (lse s i).length by omega, gI_ne _ _ (by omega), gI_ne _ _ (by omega), gI_same, gI_ne _ _ (by omega), gI_same, getD_last]
          exact ⟨rfl, rfl⟩
    · refine ⟨fun _ => ⟨⟨by omega, by omega⟩, ih M' hc ?_ ?_⟩, fun h => absurd h (by rw [if_neg (by omega)]; decide)⟩
      · rw [lse_s, if_neg h0, List.append_nil]; exact h1
      · rw [lse_s, if_neg h0, List.append_nil]; exact h2
end ALLS
