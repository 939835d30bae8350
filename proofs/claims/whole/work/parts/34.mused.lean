/-! ===== the reference: the set used by all, the ribbon of one ===== -/
section MUSED
variable {G : GG} {M : MM} {d : Nat} {Q : Option AV → MM → Prop}
theorem pow16 {w : WT} (hW : WOk w) : 2 ^ w 0 3 ≤ 16 := Nat.pow_le_pow_right (n := 2) (j := 4) (by decide) hW.1.2.2.2.1
theorem ok9_usedByAll {w s : WT} (hd : 4 ≤ d) (hS : ShM M) (hw : MW M w) (hW : WOk w) (hI : SI w s) (hR : RV M 0 s)
    (kk : ∀ M', Ch Phl M M' → SR M' w (2 ^ w 0 0) → HR M' w (thr w (goneS s)) (2 ^ w 0 3) 0 → Q (some (vI (match bst w (goneS s) (alP w (goneS s) ((lse s (w 0 3)).map (w 7))) (2 ^ w 0 0) with
      | none => -4
      | some r => ((r : Nat) : Int)))) M') : Ok G mX9_usedByAll d 0 0 [vR 96] M Q := by
  obtain ⟨d, rfl⟩ : ∃ e, d = e + 1 := ⟨d - 1, by omega⟩
  refine Ok_of rfl (Nat.le_of_ble_eq_true rfl) rfl ?_
  have hpw := pow_le hW
  have hpb := pow16 hW
  refine bX9_usedByAll_0 hS (ok9_unbound hS hw hW hR ⟨_, rfl, hS, ok9_thereIn (base := 0) (by omega) hS hw hW hI hR (by omega) ⟨_, rfl, hS, ok9_layHolds (by omega) hS hw hW fun M1 c1 hSR hHR => ⟨rfl, hS.ch c1, ?_⟩⟩⟩)
  have kk := kk M1 c1 hSR hHR
  have hul := un_lt (s := s) hW
  have ebl : (lse s (w 0 3)).map (w 7) = plu w (un w s) := by unfold plu; rw [bl_un hW]
  rw [ebl] at kk
  have hgl := goneS_lt' hI
  have hS1 := hS.ch c1
  have hw1 := hw.hl c1
  have hR1 := hR.hl c1
  generalize hgg : goneS s = g at *
  generalize un w s = u at *
  have esz : ishlv 1 (gI M1 96 5) = ((2 ^ w 0 0 : Nat) : Int) := by rw [hw1.1.1]; exact ishl_1 (by have := hW.1.1; omega)
  refine down (fun i => ∀ a c r : Int, LsS w g (alP w g (plu w u)) i a c r → (a = 0 → r = -4) → Wp G mX9_usedByAll (d + 1) 0 0 25 [some (vR 96), some (vI u), some (vI (thr w g : Nat)), some (vI r), some (vI c), some (vI (i : Int)), none, none] [] M1 0 0 Q) (n := 2 ^ w 0 0) ?_ ?_ 0 (Nat.zero_le _) 0 0 (-4) (Or.inl ⟨rfl, rfl⟩) (fun _ => rfl)
  · intro a c r hL hr
    refine bX9_usedByAll_25 _ _ _ _ _ hS1 ⟨fun _ => ?_, fun h => absurd (by rw [esz]; exact Int.le_refl _) h⟩
    rcases hL with ⟨e, e1⟩ | ⟨b, e, e1, e2, e3⟩
    · rw [e] at kk; rw [hr e1]; exact kk
    · rw [e] at kk; rw [e3]; exact kk
  · intro i hi ih a c r hL hr
    refine bX9_usedByAll_25 _ _ _ _ _ hS1 ⟨fun h => absurd h (by rw [esz]; omega), fun _ => ?_⟩
    rw [ind_n (by omega)]
    have r32 : R32 ((i : Int) + 1) := ⟨by omega, by omega⟩
    refine ⟨fun h => ⟨r32, ih a c r ?_ hr⟩, fun h => ?_⟩
    · unfold LsS
      rw [bst_no (alP_f fun z => h (by rw [sub_nd.mpr z.1]; rfl))]
      exact hL
    · have hst : sub i (thr w g) := sub_nd.mp (by omega)
      have e1 : (1024 * (u : Int) + (i : Int)).toNat = 1024 * u + i := by omega
      rw [e1, hHR u i (Or.inl hul) hi hst]
      refine ⟨⟨by omega, by omega⟩, ⟨by omega, by omega⟩, ⟨by omega, by omega⟩, fun hz => ⟨r32, ih a c r ?_ hr⟩, fun hz => ok9_costIn (base := 0) (by omega) hS1 hw1 hW hI hR1 (by omega) hi ⟨_, rfl, hS1, ?_⟩⟩
      · unfold LsS
        rw [bst_no (alP_f fun z => by rw [z.2] at hz; exact absurd hz (by decide))]
        exact hL
      · have hh : hld w (plu w u) i = true := by
          cases hh : hld w (plu w u) i
          · rw [hh] at hz; exact absurd rfl hz
          · rfl
        have hp : alP w g (plu w u) i = true := alP_t.mpr ⟨hst, hh⟩
        rw [hgg]
        have new : bst w g (alP w g (plu w u)) (i + 1) = some i → Wp G mX9_usedByAll (d + 1) 0 0 25 [some (vR 96), some (vI u), some (vI (thr w g : Nat)), some (vI (i : Int)), some (vI (cst w g i)), some (vI ((i : Int) + 1)), none, none] [] M1 0 0 Q := fun e => ih 1 (cst w g i) i (Or.inr ⟨i, e, rfl, rfl, rfl⟩) (fun z => by omega)
        refine ⟨fun ha => ⟨r32, new ?_⟩, fun ha => ?_⟩
        · rcases hL with ⟨e, e1⟩ | ⟨b, e, e1, e2, e3⟩
          · exact bst_first hp e
          · omega
        · rcases hL with ⟨e, e1⟩ | ⟨b, e, e1, e2, e3⟩
          · exact absurd (hr e1) ha
          · have hbb := (bst_in e).1
            have old : ¬ bet w g i b → Wp G mX9_usedByAll (d + 1) 0 0 25 [some (vR 96), some (vI u), some (vI (thr w g : Nat)), some (vI r), some (vI c), some (vI ((i : Int) + 1)), none, none] [] M1 0 0 Q := fun hn => ih 1 c r (Or.inr ⟨b, bst_old hp e hn, rfl, e2, e3⟩) (fun z => by omega)
            rw [e2] at old ⊢
            rw [e3] at old ⊢
            refine ⟨fun hlt => ⟨r32, new (bst_new hp e (Or.inl hlt))⟩, fun hlt => ⟨fun hne => ⟨r32, old ?_⟩, fun heq => ok_bits (by omega) ⟨_, rfl, hS1, ok_bits (by omega) ⟨_, rfl, hS1, r32, ?_⟩⟩⟩⟩
            · rintro (z | z)
              · exact hlt z
              · exact hne z.1
            · by_cases hpc : pc i 10 < pc b 10
              · have nb := new (bst_new hp e (Or.inr ⟨heq, hpc⟩))
                have n1 : ¬ ((pc b 10 : Nat) : Int) ≤ ((pc i 10 : Nat) : Int) := by omega
                rw [if_neg n1, if_neg (by decide), if_neg (by decide)]
                exact nb
              · have ob := old (by
                  rintro (z | z)
                  · exact hlt z
                  · exact hpc z.2)
                have n1 : ((pc b 10 : Nat) : Int) ≤ ((pc i 10 : Nat) : Int) := by omega
                rw [if_pos n1, if_pos rfl, if_pos rfl]
                exact ob
theorem ok9_ribbonOf {b u t : Nat} {w s : WT} (hd : 1 ≤ d) (hS : ShM M) (hw : MW M w) (hW : WOk w) (hR : RV M 0 s) (hSR : SR M w (2 ^ w 0 0)) (hHR : HR M w t (2 ^ w 0 3) 0) (hu : u < 2 ^ w 0 0) (hut : sub u t) (hh : hld w ((lse s (w 0 3)).map (w 7)) u = true) (hb : b ∈ lse s (w 0 3)) (kk : Q (some (vI (aof w (lse s (w 0 3)) u b : Nat))) M) : Ok G mX9_ribbonOf d 0 0 [vR 96, vI b, vI u] M Q := by
  obtain ⟨d, rfl⟩ : ∃ e, d = e + 1 := ⟨d - 1, by omega⟩
  refine Ok_of rfl (Nat.le_of_ble_eq_true rfl) rfl ?_
  have hpw := pow_le hW
  have hpb := pow16 hW
  have h4 := hW.1.2.2.2.1
  have hul := un_lt (s := s) hW
  refine bX9_ribbonOf_0 _ _ hS (ok9_unbound hS hw hW hR ⟨_, rfl, hS, ?_⟩)
  rw [← bl_un hW] at hh hb kk
  generalize un w s = u0 at *
  have hb4 : b < w 0 3 ∧ u0.testBit b = true := by
    have h1 := (List.mem_filter.mp hb).2
    exact ⟨bits_lt hul h1, h1⟩
  generalize hA : aof w (bl u0) u b = A at kk
  have fin : ∀ (rest left i : Nat), b < i → Wp G mX9_ribbonOf (d + 1) 0 0 14 [some (vR 96), some (vI b), none, some (vI (rest : Int)), some (vI (left : Int)), some (vI (A : Int)), some (vI (i : Int))] [] M 0 0 Q := fun rest left i hi => bX9_ribbonOf_14 _ _ _ _ _ hS ⟨fun _ => kk, fun h => absurd (by omega) h⟩
  refine down (fun i => ∀ rest left : Nat, ∀ x : Int, rest < 2 ^ w 0 3 → left < 2 ^ w 0 0 → sub left t → (∀ k, k < i → rest.testBit k = false) → rest.testBit b = true → hld w (plu w rest) left = true → aof w (bl rest) left b = A → Wp G mX9_ribbonOf (d + 1) 0 0 14 [some (vR 96), some (vI b), none, some (vI (rest : Int)), some (vI (left : Int)), some (vI x), some (vI (i : Int))] [] M 0 0 Q) (n := b + 1) ?_ ?_ 0 (Nat.zero_le _) u0 u 0 hul hu hut (fun k hk => absurd hk (Nat.not_lt_zero k)) hb4.2 hh hA
  · intro rest left x _ _ _ h1 h2
    rw [h1 b (Nat.lt_succ_self b)] at h2
    cases h2
  · intro i hi ih rest left x hrl hll hlt h1 h2 h3 h4
    refine bX9_ribbonOf_14 _ _ _ _ _ hS ⟨fun h => absurd h (by omega), fun _ => ok_has (by omega) (by omega) ⟨_, rfl, hS, ?_⟩⟩
    cases hri : rest.testBit i
    · refine ⟨fun _ => ⟨⟨by omega, by omega⟩, ih rest left x hrl hll hlt (fun k hk => ?_) h2 h3 h4⟩, fun h => absurd rfl h⟩
      rcases Nat.lt_or_ge k i with q | q
      · exact h1 k q
      · rw [show k = i by omega]; exact hri
    · refine ⟨fun h => absurd h (by decide), fun _ => ?_⟩
      have h0 : rest ≠ 0 := fun z => by rw [z, Nat.zero_testBit] at hri; cases hri
      have elw := lw4_is (by omega) hri h1
      obtain ⟨a0, a1, a2, a3, -⟩ := bl_all rest (by omega) h0
      rw [elw] at a0 a2
      have ep : plu w rest = w 7 i :: plu w (nd rest (2 ^ i)) := by unfold plu; rw [a0]; rfl
      rw [ep] at h3
      obtain ⟨o1, o2⟩ := lor_spec h3
      have ea : aof w (bl rest) left b = if b = i then lor w (w 7 i) (plu w (nd rest (2 ^ i))) left else aof w (bl (nd rest (2 ^ i))) (nd left (lor w (w 7 i) (plu w (nd rest (2 ^ i))) left)) b := by rw [a0]; rfl
      rw [ea] at h4
      rw [ishl_1 (by omega), ind_n (by omega)]
      generalize hrr : nd rest (2 ^ i) = rest' at *
      generalize lor w (w 7 i) (plu w rest') left = r at *
      obtain ⟨r0, r1, r2, r3⟩ := okr_t.mp o1
      have hrl2 := sub_le r1
      have hib : i < w 0 3 := bits_lt hrl hri
      refine down (fun c => 1 ≤ c → Wp G mX9_ribbonOf (d + 1) 0 0 41 [some (vR 96), some (vI b), none, some (vI (rest' : Int)), some (vI (left : Int)), some (vI (c : Int)), some (vI (i : Int))] [] M 0 0 Q) (n := r) ?_ ?_ 1 (by omega) (Nat.le_refl 1)
      · intro _
        have e1 : (1024 * (rest' : Int) + ((nd left r : Nat) : Int)).toNat = 1024 * rest' + nd left r := by omega
        have hnl := nd_lt_of r1 r0
        refine bX9_ribbonOf_41 _ _ _ _ _ hS ?_
        rw [ind_n (by omega), ind_n (by omega), e1, Int.toNat_natCast, Int.toNat_natCast, hSR r (by omega), hw.2.2.2.1 i hib, hHR rest' (nd left r) (Or.inl (by omega)) (by omega) (sub_tr nd_sub hlt), r3]
        refine ⟨fun h => absurd (by rw [sub_nd.mpr r1]; rfl) h, fun _ => ⟨⟨by omega, by omega⟩, ⟨by omega, by omega⟩, fun h => absurd h (by omega), fun _ => ⟨⟨by omega, by omega⟩, ⟨by omega, by omega⟩, ⟨by omega, by omega⟩, fun _ => ⟨⟨by omega, by omega⟩, ?_⟩, fun h => absurd h (by decide)⟩⟩⟩
        by_cases hbi : b = i
        · rw [if_pos hbi] at h4
          rw [h4]
          exact fin rest' (nd left A) (i + 1) (by omega)
        · rw [if_neg hbi] at h4
          refine ih rest' (nd left r) r (by omega) (by omega) (sub_tr nd_sub hlt) (fun k hk => ?_) ?_ r3 h4
          · rw [← hrr, nd_bit, two_pow_bit]
            rcases Nat.lt_or_ge k i with q | q
            · rw [h1 k q]; rfl
            · rw [decide_eq_true (show i = k by omega), Bool.not_true, Bool.and_false]
          · rw [← hrr, nd_bit, two_pow_bit, h2, decide_eq_false (by omega)]; rfl
      · intro c hc ihc h1c
        have hf := o2 c hc
        have r32 : R32 ((c : Int) + 1) := ⟨by omega, by omega⟩
        have ihc := ihc (by omega)
        refine bX9_ribbonOf_41 _ _ _ _ _ hS ?_
        rw [ind_n (by omega), ind_n (by omega)]
        refine ⟨fun _ => ⟨r32, ihc⟩, fun hz => ?_⟩
        have hcs : sub c left := sub_nd.mp (by omega)
        have hnl := sub_le (nd_sub (a := left) (b := c))
        have e1 : (1024 * (rest' : Int) + ((nd left c : Nat) : Int)).toNat = 1024 * rest' + nd left c := by omega
        rw [e1, Int.toNat_natCast, Int.toNat_natCast, hSR c (by omega), hw.2.2.2.1 i hib, hHR rest' (nd left c) (Or.inl (by omega)) (by omega) (sub_tr nd_sub hlt)]
        refine ⟨⟨by omega, by omega⟩, ⟨by omega, by omega⟩, fun _ => ⟨r32, ihc⟩, fun hge => ⟨⟨by omega, by omega⟩, ⟨by omega, by omega⟩, ⟨by omega, by omega⟩, fun hne => ?_, fun _ => ⟨r32, ihc⟩⟩⟩
        have hh : hld w (plu w rest') (nd left c) = true := by
          cases hq : hld w (plu w rest') (nd left c)
          · rw [hq] at hne; exact absurd rfl hne
          · rfl
        rw [okr_t.mpr ⟨by omega, hcs, by omega, hh⟩] at hf
        cases hf
end MUSED
