/-! ===== the Planner: sharing out, and the search for all ===== -/
section ALLE
variable {G : GG} {M : MM} {d : Nat} {Q : Option AV → MM → Prop}
theorem ok_shareOut {u t : Nat} {w : WT} {L : List Nat} (hd : 2 ≤ d) (hS : ShX M) (hT : TB M w) (hW : WOk w) (hP : PL M w L) (hL : LK w L) (hN : L.Nodup) (hu : u < 2 ^ w 0 0) (hut : sub u t) (hH : HB M w L t (2 ^ w 0 0)) (kk : ∀ M', Ch (fun q => q = 88) M M' → (∀ b, b < 4 → gI M' 88 b = (aof w L u b : Nat)) → Q none M') : Ok G mX3_shareOut d 0 0 [vR 87, vI u] M Q := by
  obtain ⟨d, rfl⟩ : ∃ e, d = e + 1 := ⟨d - 1, by omega⟩
  refine Ok_of rfl (Nat.le_of_ble_eq_true rfl) rfl ?_
  have hn4 := hW.1.2.2.2.1
  have hl4 := hL.1
  have hpw := pow_le hW
  refine bX3_shareOut_0 _ hS ?_
  refine down (fun i => ∀ M', Ch (fun q => q = 88) M M' → (∀ b, b < i → gI M' 88 b = 0) → Wp G mX3_shareOut (d + 1) 0 0 2 [some (vR 87), some (vI u), some (vI (i : Int)), none, none, none] [] M' 0 0 Q) (n := 4) ?_ ?_ 0 (Nat.zero_le _) M Ch.rf (fun b hb => absurd hb (Nat.not_lt_zero b))
  · intro M' hc hz
    refine bX3_shareOut_2 _ _ (hS.ch hc) ⟨fun _ => ?_, fun h => absurd (by decide) h⟩
    refine down (fun j => ∀ M2 v, Ch (fun q => q = 88) M M2 → v < 2 ^ w 0 0 → sub v t → (∀ b, b < 4 → b ∉ L.drop j → gI M2 88 b = (aof w L u b : Nat)) → (∀ b, b ∈ L.drop j → aof w L u b = aof w (L.drop j) v b) → Wp G mX3_shareOut (d + 1) 0 0 24 [some (vR 87), none, some (vI (v : Nat)), some (vI (j : Int)), none, none] [] M2 0 0 Q) (n := L.length) ?_ ?_ 0 (Nat.zero_le _) M' u hc hu hut (fun b hb hnb => ?_) (fun b _ => rfl)
    · intro M2 v hc2 hv hvt h1 h2
      have hP2 : PL M2 w L := hP.of fun q j hq => hc2.2.2 q j (by omega)
      refine bX3_shareOut_24 _ _ (hS.ch hc2) ⟨fun _ => ?_, fun h => absurd (by rw [hP2.1]; exact Int.le_refl _) h⟩
      rw [List.drop_eq_nil_of_le (Nat.le_refl _)] at h1
      exact kk M2 hc2 fun b hb => h1 b hb (by simp)
    · intro j hj ih M2 v hc2 hv hvt h1 h2
      have hP2 : PL M2 w L := hP.of fun q j hq => hc2.2.2 q j (by omega)
      have hT2 : TB M2 w := hT.of fun q hq j => hc2.2.2 q j (by unfold Ptb at hq; omega)
      have hH2 : HB M2 w L t (2 ^ w 0 0) := hH.of fun j _ => hc2.2.2 92 j (by decide)
      have hS2 := hS.ch hc2
      have hc3 := hL.2 j hj
      rw [dropc hj] at h1 h2
      have hnd : (L.getD j 0 :: L.drop (j + 1)).Nodup := by rw [← dropc hj]; exact List.Pairwise.sublist (List.drop_sublist j L) hN
      have hnc := (List.nodup_cons.mp hnd).1
      refine bX3_shareOut_24 _ _ hS2 ⟨fun h => absurd h (by rw [hP2.1]; omega), fun _ => ⟨fun h => absurd h (by omega), fun _ => ⟨⟨by omega, by omega⟩, ok_lowestRibbon (by omega) hS2 hT2 hW hP2 hL hj hv hvt hH2 (by omega) ⟨_, rfl, hS2, ?_⟩⟩⟩⟩
      rw [Int.toNat_natCast, (hP2.2.1 j hj).1, Int.toNat_natCast]
      refine ⟨fun h => absurd h (by omega), fun _ => ⟨fun h => absurd h (by omega), fun _ => ⟨⟨by omega, by omega⟩, ?_⟩⟩⟩
      rintro _ rfl
      generalize hr : lor w (w 7 (L.getD j 0)) (pls w L (j + 1)) v = r
      have hrs : sub r v := by rw [← hr]; exact lor_sub
      have hr2 := sub_le hrs
      rw [ixor_n (by omega) (by omega), nd_xor hrs]
      have ea : ∀ b, aof w (L.getD j 0 :: L.drop (j + 1)) v b = if b = L.getD j 0 then r else aof w (L.drop (j + 1)) (nd v r) b := fun b => by rw [← hr]; rfl
      refine ⟨⟨by omega, by omega⟩, ih _ _ (hc2.st rfl) (nd_lt hv) (sub_tr nd_sub hvt) (fun b hb hnb => ?_) (fun b hb => ?_)⟩
      · by_cases he : b = L.getD j 0
        · rw [he, gI_same, h2 _ (List.mem_cons_self ..), ea, if_pos rfl]
        · rw [gI_ne _ _ (by omega)]
          exact h1 b hb fun z => by
            rcases List.mem_cons.mp z with q | q
            · exact he q
            · exact hnb q
      · rw [h2 b (List.mem_cons_of_mem _ hb), ea, if_neg (fun z => hnc (by rw [← z]; exact hb))]
    · rw [hz b hb]
      rw [aof_no (L := L) hnb]; rfl
  · intro i hi ih M' hc hz
    refine bX3_shareOut_2 _ _ (hS.ch hc) ⟨fun h => absurd h (by omega), fun _ => ⟨⟨by omega, by omega⟩, ?_⟩⟩
    rintro _ rfl
    rw [Int.toNat_natCast]
    refine ⟨⟨by omega, by omega⟩, ih _ (hc.st rfl) fun b hb => ?_⟩
    by_cases he : b = i
    · rw [he, gI_same]
    · rw [gI_ne _ _ (by omega)]; exact hz b (by omega)
theorem ok_findAll {p pw : Nat} {w s : WT} (hd : 4 ≤ d) (hk : kd p = 5) (hkw : kd pw = 7) (hS : ShX M) (hw : CW M pw w) (hW : WOk w) (hT : TB M w) (hV : SV M p s) (hI : SI w s) (hdy : s 3 0 ≤ 2000)
    (k0 : ∀ M', Ch Ppl M M' → bst w (goneS s) (alP w (goneS s) ((lse s (w 0 3)).map (w 7))) (2 ^ w 0 0) = none → Q (some (vI 0)) M')
    (k1 : ∀ M' u, Ch Ppl M M' → bst w (goneS s) (alP w (goneS s) ((lse s (w 0 3)).map (w 7))) (2 ^ w 0 0) = some u → gI M' 87 2 = (u : Nat) → gI M' 87 3 = cst w (goneS s) u → (∀ b, b < 4 → gI M' 88 b = (aof w (lse s (w 0 3)) u b : Nat)) → Q (some (vI 1)) M') : Ok G mX3_findAll d 0 0 [vR 87, vR pw, vR p] M Q := by
  obtain ⟨d, rfl⟩ : ∃ e, d = e + 1 := ⟨d - 1, by omega⟩
  refine Ok_of rfl (Nat.le_of_ble_eq_true rfl) rfl ?_
  have hp := k5_at hk
  have hpw := pow_le hW
  have hLK := lse_LK (s := s) hW
  have hLN := lse_nd (s := s) (n := w 0 3)
  refine bX3_findAll_0 _ hkw _ hk hS (ok_listLoose (by omega) hk hkw hS hw hW hV fun M1 hc1 hP1 => ⟨rfl, hS.ch hc1, ?_⟩)
  have hV1 : SV M1 p s := ⟨fun b hb => ⟨(hc1.2.2 _ b (by unfold Ppl; omega)).trans (hV.1 b hb).1, (hc1.2.2 _ b (by unfold Ppl; omega)).trans (hV.1 b hb).2.1, (hc1.2.2 _ b (by unfold Ppl; omega)).trans (hV.1 b hb).2.2⟩, (hc1.2.2 p 0 (by unfold Ppl; omega)).trans hV.2⟩
  have hT1 : TB M1 w := hT.of fun q hq j => hc1.2.2 q j (by unfold Ptb at hq; unfold Ppl; omega)
  refine ok_gone hk (hS.ch hc1) hV1 (hI.sb hW hdy) ⟨_, rfl, hS.ch hc1, ok_thereBesides (by omega) (hS.ch hc1) hT1 hW (goneS_lt' hI) ⟨_, rfl, hS.ch hc1, ?_⟩⟩
  have hg := goneS_lt' hI
  generalize goneS s = g at *
  generalize lse s (w 0 3) = L at *
  have e0 : L.map (w 7) = pls w L 0 := rfl
  rw [e0] at k0 k1
  refine down (fun i => ∀ M2 a, Ch Ppl M M2 → PL M2 w L → HB M2 w L (thr w g) i → LsS w g (alP w g (pls w L 0)) i a (gI M2 87 3) (gI M2 87 2) → Wp G mX3_findAll (d + 1) 0 0 27 [some (vR 87), none, none, some (vI g), some (vI (thr w g : Nat)), some (vI a), some (vI (i : Int)), none] [] M2 0 0 Q) (n := 2 ^ w 0 0) ?_ ?_ 0 (Nat.zero_le _) M1 0 hc1 hP1 (fun s hs => absurd hs (Nat.not_lt_zero s)) (Or.inl ⟨rfl, rfl⟩)
  · intro M2 a hc hP hH hLs
    have hT2 : TB M2 w := hT.of fun q hq j => hc.2.2 q j (by unfold Ptb at hq; unfold Ppl; omega)
    refine bX3_findAll_27 _ _ _ _ (hS.ch hc) ⟨fun _ => ?_, fun h => absurd (by rw [hT2.1]; exact Int.le_refl _) h⟩
    rcases hLs with ⟨e, e1⟩ | ⟨b, e, e1, e2, e3⟩
    · rw [e1]; exact ⟨fun _ => ⟨Or.inl rfl, k0 M2 hc e⟩, fun h => absurd rfl h⟩
    · rw [e1, e3]
      have hb := bst_in e
      refine ⟨fun h => absurd h (by decide), fun _ => ok_shareOut (by omega) (hS.ch hc) hT2 hW hP hLK hLN hb.1 (alP_t.mp hb.2).1 hH fun M3 hc3 h88 => ⟨rfl, (hS.ch hc).ch hc3, Or.inr rfl, ?_⟩⟩
      refine k1 M3 b (hc.tr (hc3.mono fun q hq => by unfold Ppl; omega)) e ?_ ?_ h88
      · rw [hc3.2.2 87 2 (by decide)]; exact e3
      · rw [hc3.2.2 87 3 (by decide)]; exact e2
  · intro i hi ih M2 a hc hP hH hLs
    have hT2 : TB M2 w := hT.of fun q hq j => hc.2.2 q j (by unfold Ptb at hq; unfold Ppl; omega)
    have hS2 := hS.ch hc
    have r32 : R32 ((i : Int) + 1) := ⟨by omega, by omega⟩
    refine bX3_findAll_27 _ _ _ _ hS2 ⟨fun h => absurd h (by rw [hT2.1]; omega), fun _ => ⟨fun h => absurd h (by omega), fun _ => ?_⟩⟩
    rw [ind_n (by omega)]
    refine ⟨fun hz => ?_, fun hz => ⟨r32, ih M2 a hc hP (fun s hs hst => ?_) ?_⟩⟩
    · have hst : sub i (thr w g) := sub_nd.mp (by omega)
      refine ok_whoIsHeldBy (by omega) hS2 hT2 hW hP hLK hi hst hH (Nat.le_refl i) fun v hv hvb => ⟨_, rfl, hS2, ⟨by omega, by omega⟩, ?_⟩
      rintro _ rfl
      rw [Int.toNat_natCast, gI_same, show (1 : Int) = ((1 : Nat) : Int) from rfl, iand_n (by omega), Nat.and_one_is_mod]
      have hb0 := hvb 0 (Nat.zero_le _)
      rw [bit0_eq] at hb0
      have hc3 := hc.st (p := 92) (k := i) (x := (v : Int)) (show Ppl 92 from ⟨by omega, by omega⟩)
      have hP3 : PL (stI M2 92 i (v : Int)) w L := hP.of fun q j hq => gI_ne _ _ (by omega)
      have hS3 := hS.ch hc3
      have hT3 : TB (stI M2 92 i (v : Int)) w := hT.of fun q hq j => hc3.2.2 q j (by unfold Ptb at hq; unfold Ppl; omega)
      have hH3 : HB (stI M2 92 i (v : Int)) w L (thr w g) (i + 1) := fun s hs hst => by
        by_cases he : s = i
        · refine ⟨v, by rw [he, gI_same], hv, ?_⟩
          rw [he]
          exact hvb
        · rw [gI_ne _ _ (by omega)]
          exact hH s (by omega) hst
      have f3 : gI (stI M2 92 i (v : Int)) 87 3 = gI M2 87 3 := gI_ne _ _ (by omega)
      have f2 : gI (stI M2 92 i (v : Int)) 87 2 = gI M2 87 2 := gI_ne _ _ (by omega)
      rw [← f3, ← f2] at hLs
      generalize stI M2 92 i (v : Int) = M3 at *
      refine ⟨fun hne => ok_costOf (by omega) hS3 hT3 hW hi hg ⟨_, rfl, hS3, ?_⟩, fun he => ⟨r32, ih M3 a hc3 hP3 hH3 ?_⟩⟩
      · have hh : hld w (pls w L 0) i = true := by rw [← hb0]; exact decide_eq_true (by omega)
        have hpp : alP w g (pls w L 0) i = true := alP_t.mpr ⟨hst, hh⟩
        have new : bst w g (alP w g (pls w L 0)) (i + 1) = some i → Wp G mX3_findAll (d + 1) 0 0 27 [some (vR 87), none, none, some (vI g), some (vI (thr w g : Nat)), some (vI 1), some (vI ((i : Int) + 1)), none] [] (stI (stI M3 87 3 (cst w g i)) 87 2 (i : Int)) 0 0 Q := fun e => ih _ 1 ((hc3.st (show Ppl 87 from ⟨by omega, by omega⟩)).st (show Ppl 87 from ⟨by omega, by omega⟩)) (hP3.of fun q j hq => (gI_ne _ _ (by omega)).trans (gI_ne _ _ (by omega))) (hH3.of fun j _ => (gI_ne _ _ (by omega)).trans (gI_ne _ _ (by omega))) (Or.inr ⟨i, e, rfl, by rw [gI_ne _ _ (by omega), gI_same], by rw [gI_same]⟩)
        refine ⟨fun ha => ?_, fun ha => ?_⟩
        · rintro _ rfl _ rfl
          refine ⟨r32, new ?_⟩
          rcases hLs with ⟨e, e1⟩ | ⟨b, e, e1, e2, e3⟩
          · exact bst_first hpp e
          · omega
        · rcases hLs with ⟨e, e1⟩ | ⟨b, e, e1, e2, e3⟩
          · exact absurd e1 ha
          · rw [e3, e2]
            have hb := (bst_in e).1
            refine ok_isBetter (by omega) (by omega) (by omega) (fun hbt => ⟨_, rfl, hS3, fun z => absurd z (by decide), fun _ => ?_⟩) (fun hbt => ⟨_, rfl, hS3, fun _ => ⟨r32, ih M3 a hc3 hP3 hH3 (Or.inr ⟨b, bst_old hpp e hbt, e1, e2, e3⟩)⟩, fun z => absurd rfl z⟩)
            rintro _ rfl _ rfl
            exact ⟨r32, new (bst_new hpp e hbt)⟩
      · unfold LsS
        rw [bst_no (alP_f fun z => by rw [z.2] at hb0; have := of_decide_eq_true hb0; omega)]
        exact hLs
    · rcases Nat.lt_or_ge s i with q | q
      · exact hH s q hst
      · rw [show s = i by omega] at hst
        exact absurd (by rw [sub_nd.mpr hst]; rfl) hz
    · unfold LsS
      rw [bst_no (alP_f fun z => hz (by rw [sub_nd.mpr z.1]; rfl))]
      exact hLs
theorem ok_ribbonInAll {b : Nat} (hS : ShX M) (hb : b < 4) (kk : Q (some (vI (gI M 88 b))) M) : Ok G mX3_ribbonInAll d 0 0 [vR 87, vI b] M Q := by
  refine Ok_of rfl (Nat.le_of_ble_eq_true rfl) rfl ?_
  refine bX3_ribbonInAll_0 _ hS ⟨fun h => absurd h (by omega), fun _ => ⟨fun h => absurd h (by omega), fun _ => ⟨⟨by omega, by omega⟩, ?_⟩⟩⟩
  rw [Int.toNat_natCast]
  exact kk
end ALLE
