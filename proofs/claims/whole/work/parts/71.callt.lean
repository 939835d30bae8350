/-! ===== each call on both sides: what changes them ===== -/
theorem PIv.push {w s : WT} {n : Nat} {f : Nat → WT} (h : PIv w s) (hf : ∀ i, i < n → PIv w (f i)) (hn : n ≤ 8) : ∀ i, i < pshn n 8 → PIv w (psh n 8 f s i) := by
  intro i hi
  unfold pshn at hi
  unfold psh
  by_cases hc : n < 8
  · rw [if_pos hc] at hi ⊢
    split
    · exact h
    · exact hf i (by omega)
  · rw [if_neg hc] at hi ⊢
    split
    · exact h
    · exact hf (i + 1) (by omega)
theorem GdS.push {w s s' : WT} {n k L : Nat} {f g : Nat → WT} {t : Nat → Int} (h : GdS (w, s, n, f, k, g, L, t)) (hn : n ≤ 8) (hs : PIv w s') : GdS (w, s', pshn n 8, psh n 8 f s, k, g, L, t) := ⟨hs, h.2.1, h.1.push h.2.2.1 hn, h.2.2.2⟩
section CALLT
variable {G : GG} {M : MM}
theorem p0_write (h : BiS M) (a : Int) : PrC G mX8_write mX9_write [vI a] M := by
  obtain ⟨⟨w, s, n, f, k, g, L, t⟩, hI, hM, hG⟩ := h
  by_cases hc : 32 ≤ a ∧ a ≤ 126
  · have hL : L ≤ 200 := hI.2.1.2.1
    by_cases hl : L = 200
    · exact pr_q (F := -3) hI hM hG (fun Q k => ok8_write (by decide) hI.1.1.1 hI.2.1 (fun z => absurd hc z) (fun _ _ => k) fun _ z => absurd hl (Nat.ne_of_lt z)) fun M1 h1 Q k => ok9_write (by decide) h1.1.1.1 h1.2 (fun z => absurd hc z) (fun _ _ => k) fun _ z => absurd hl (Nat.ne_of_lt z)
    · have hl2 : L < 200 := by omega
      refine pr_u (F := ((L + 1 : Nat) : Int)) (B := (w, s, n, f, k, g, L + 1, apT L t a)) hM hG (fun Q k => ok8_write (by decide) hI.1.1.1 hI.2.1 (fun z => absurd hc z) (fun _ z => absurd z hl) fun _ _ M' c hT => ?_) fun M1 h1 Q k => ok9_write (by decide) h1.1.1.1 h1.2 (fun z => absurd hc z) (fun _ z => absurd z hl) fun _ _ hT => ?_
      · have k1 := k7_at (xlaid hI.1.1.1)
        have gr : ∀ q j, gR M' q j = gR M q j := fun q j => by unfold gR; rw [c.2.1]
        have ln43 : ln (43 + 1) = 8 := rfl
        have ln77 : ln (77 + 1) = 2 := rfl
        obtain ⟨⟨⟨hS, hw, hTB, hV⟩, hP1, hP2⟩, hX, hne⟩ := hI
        refine k M' ⟨⟨⟨hS.ch c, ?_, hTB.of fun q hq j => c.2.2 q j (by unfold Ptb at hq; omega), hV.eq fun r j hr => c.2.2 r j (by unfold Pst at hr; omega)⟩, hP1.eq rfl (fun i => gr _ _) fun q j hq => c.2.2 q j (by unfold Ppi at hq; omega), hP2.eq rfl (fun i => gr _ _) fun q j hq => c.2.2 q j (by unfold Ppi at hq; omega)⟩, hT, ?_⟩ (FrX.ch c fun q hq => by omega)
        · show CW M' (gR M' 1 2) w
          rw [gr]
          exact hw.of fun q hq j => c.2.2 q j (by unfold Pwo at hq; omega)
        · show gR M' 1 2 ≠ gR M' 1 3
          rw [gr, gr]
          exact hne
      · have fr : FrM M1 (stI (stI M1 98 L a) 96 4 (L + 1 : Nat)) := (FrM.rf.st (by decide)).st (by decide)
        have o : ∀ q j, ¬ (q = 98) → ¬ (q = 96 ∧ j = 4) → gI (stI (stI M1 98 L a) 96 4 (L + 1 : Nat)) q j = gI M1 q j := fun q j h1 h2 => (gI_ne _ _ h2).trans (gI_ne _ _ fun z => h1 z.1)
        obtain ⟨⟨⟨hS, ⟨⟨a1, a2, a3, a4, a5⟩, b, e, f', g'⟩, hR⟩, ⟨p1, p2, p3, p4⟩, p5, p6⟩, hX⟩ := h1
        refine k _ ⟨⟨⟨hS.of rfl, ⟨⟨(o 96 5 (by omega) (by omega)).trans a1, (o 96 9 (by omega) (by omega)).trans a2, (o 96 10 (by omega) (by omega)).trans a3, (o 96 13 (by omega) (by omega)).trans a4, (o 96 15 (by omega) (by omega)).trans a5⟩, fun i hi => ?_, fun i hi => ?_, fun i hi => (o 104 i (by omega) (by omega)).trans (f' i hi), fun x hx j hj => (o 105 _ (by omega) (by omega)).trans (g' x hx j hj)⟩, hR.eq fun j _ h2 => o 97 j (by omega) (by omega)⟩, ⟨(o 96 1 (by omega) (by omega)).trans p1, p2, (o 96 2 (by omega) (by omega)).trans p3, p4⟩, fun i hi => (p5 i hi).eq fun j h1 h2 => o 97 j (by omega) (by omega), fun i hi => (p6 i hi).eq fun j h1 h2 => o 97 j (by omega) (by omega)⟩, hT⟩ fr
        · obtain ⟨b1, b2, b3⟩ := b i hi
          exact ⟨(o 99 i (by omega) (by omega)).trans b1, (o 100 i (by omega) (by omega)).trans b2, (o 101 i (by omega) (by omega)).trans b3⟩
        · obtain ⟨c1, c2⟩ := e i hi
          exact ⟨(o 102 i (by omega) (by omega)).trans c1, (o 103 i (by omega) (by omega)).trans c2⟩
  · exact pr_q (F := -1) hI hM hG (fun Q k => ok8_write (by decide) hI.1.1.1 hI.2.1 (fun _ => k) (fun z => absurd z hc) fun z => absurd z hc) fun M1 h1 Q k => ok9_write (by decide) h1.1.1.1 h1.2 (fun _ => k) (fun z => absurd z hc) fun z => absurd z hc
theorem p1_wipe (h : BiS M) : PrC G mX8_wipe mX9_wipe [] M := by
  obtain ⟨⟨w, s, n, f, k, g, L, t⟩, hI, hM, hG⟩ := h
  refine pr_u (F := ((L : Nat) : Int)) (B := (w, s, n, f, k, g, 0, t)) hM hG (fun Q k => ok8_wipe (by decide) hI.1.1.1 hI.2.1 fun M' c hT => ?_) fun M1 h1 Q k => ok9_wipe h1.1.1.1 h1.2 fun hT => ?_
  · have k1 := k7_at (xlaid hI.1.1.1)
    have gr : ∀ q j, gR M' q j = gR M q j := fun q j => by unfold gR; rw [c.2.1]
    have ln43 : ln (43 + 1) = 8 := rfl
    have ln77 : ln (77 + 1) = 2 := rfl
    obtain ⟨⟨⟨hS, hw, hTB, hV⟩, hP1, hP2⟩, hX, hne⟩ := hI
    refine k M' ⟨⟨⟨hS.ch c, ?_, hTB.of fun q hq j => c.2.2 q j (by unfold Ptb at hq; omega), hV.eq fun r j hr => c.2.2 r j (by unfold Pst at hr; omega)⟩, hP1.eq rfl (fun i => gr _ _) fun q j hq => c.2.2 q j (by unfold Ppi at hq; omega), hP2.eq rfl (fun i => gr _ _) fun q j hq => c.2.2 q j (by unfold Ppi at hq; omega)⟩, hT, ?_⟩ (FrX.ch c fun q hq => by omega)
    · show CW M' (gR M' 1 2) w
      rw [gr]
      exact hw.of fun q hq j => c.2.2 q j (by unfold Pwo at hq; omega)
    · show gR M' 1 2 ≠ gR M' 1 3
      rw [gr, gr]
      exact hne
  · have fr : FrM M1 (stI M1 96 4 0) := FrM.rf.st (by decide)
    have o : ∀ q j, ¬ (q = 96 ∧ j = 4) → gI (stI M1 96 4 0) q j = gI M1 q j := fun q j h2 => gI_ne _ _ h2
    obtain ⟨⟨⟨hS, ⟨⟨a1, a2, a3, a4, a5⟩, b, e, f', g'⟩, hR⟩, ⟨p1, p2, p3, p4⟩, p5, p6⟩, hX⟩ := h1
    refine k _ ⟨⟨⟨hS.of rfl, ⟨⟨(o 96 5 (by omega)).trans a1, (o 96 9 (by omega)).trans a2, (o 96 10 (by omega)).trans a3, (o 96 13 (by omega)).trans a4, (o 96 15 (by omega)).trans a5⟩, fun i hi => ?_, fun i hi => ?_, fun i hi => (o 104 i (by omega)).trans (f' i hi), fun x hx j hj => (o 105 _ (by omega)).trans (g' x hx j hj)⟩, hR.eq fun j _ h2 => o 97 j (by omega)⟩, ⟨(o 96 1 (by omega)).trans p1, p2, (o 96 2 (by omega)).trans p3, p4⟩, fun i hi => (p5 i hi).eq fun j h1 h2 => o 97 j (by omega), fun i hi => (p6 i hi).eq fun j h1 h2 => o 97 j (by omega)⟩, hT⟩ fr
    · obtain ⟨b1, b2, b3⟩ := b i hi
      exact ⟨(o 99 i (by omega)).trans b1, (o 100 i (by omega)).trans b2, (o 101 i (by omega)).trans b3⟩
    · obtain ⟨c1, c2⟩ := e i hi
      exact ⟨(o 102 i (by omega)).trans c1, (o 103 i (by omega)).trans c2⟩
theorem p3_lay (h : BiS M) : PrC G mX8_lay mX9_lay [] M := by
  obtain ⟨⟨w, s, n, f, k, g, L, t⟩, hI, hM, hG⟩ := h
  have hP1 := hI.1.2.1.1
  have hP2 := hI.1.2.2.1
  by_cases hl : lays t L
  · have hW : WOk (rdA t L).2 := rdW_ok (t := t) (L := L) (f := 200) (a := 0) w00_ok
    refine pr_u (F := (((rdA t L).2 0 0 : Nat) : Int)) (B := ((rdA t L).2, s00, 0, f, 0, g, L, t)) hM ⟨⟨hW, s00_SI, Nat.zero_le _⟩, hl.2.2, fun i hi => absurd hi (Nat.not_lt_zero i), fun i hi => absurd hi (Nat.not_lt_zero i)⟩ (fun Q k => ok8_lay (by decide) hI.1.1.1 hI.2.1 hI.2.2 hP1 hP2 (fun z => absurd hl z) fun _ M' hX fr hT hne => k M' ⟨hX f g, hT, hne⟩ fr) fun M1 h1 Q k => ok9_lay (by decide) h1.1.1.1 h1.2 (fun z => absurd hl z) fun _ M' hX hT fr => k M' ⟨hX f g, hT⟩ fr
  · refine pr_u (F := -2) (B := (w, s, n, f, k, g, L, t)) hM hG (fun Q k => ok8_lay (by decide) hI.1.1.1 hI.2.1 hI.2.2 hP1 hP2 (fun _ M' c => ?_) fun z => absurd z hl) fun M1 h1 Q k => ok9_lay (by decide) h1.1.1.1 h1.2 (fun _ M' c => ?_) fun z => absurd z hl
    · obtain ⟨x, y⟩ := hI.of c fun q hq => hq.elim Or.inl fun z => z.elim (fun y => Or.inr (Or.inl y)) fun y => Or.inr (Or.inr (Or.inl y))
      exact k M' x y
    · obtain ⟨x, y⟩ := h1.ct c
      exact k M' x y
theorem p10_bind (h : BiS M) (b a : Int) : PrC G mX8_bind mX9_bind [vI b, vI a] M := by
  obtain ⟨⟨w, s, n, f, k, g, L, t⟩, hI, hM, hG⟩ := h
  have hn8 : n ≤ 8 := hM.1.2.1.2.1
  by_cases hc : (0 ≤ b ∧ b < w 0 3) ∧ isS w a
  · by_cases hh : s 0 b.toNat = 0 ∧ sub a.toNat (thr w (goneS s)) ∧ w 7 b.toNat ≤ str w a.toNat
    · have hP : PIv w (bindS s b.toNat a.toNat) := by
        obtain ⟨⟨h1, h2⟩, h3, h4⟩ := hc
        have hb' : b.toNat < w 0 3 := by omega
        have ha' : a.toNat < 2 ^ w 0 0 := by omega
        refine ⟨hG.1.1, hG.1.2.1.bindI hG.1.1 hb' ha' hh.2.1 hh.2.2 hh.1, ?_⟩
        have e3 : bindS s b.toNat a.toNat 3 0 = s 3 0 := by simp [bindS]
        rw [e3]
        exact hG.1.2.2
      refine pr_u (F := ((str w a.toNat : Nat) : Int)) (B := (w, bindS s b.toNat a.toNat, pshn n 8, psh n 8 f s, k, g, L, t)) hM (hG.push hn8 hP) (fun Q k => ok8_bind (by decide) hI.1 hG.1 (fun z => absurd hc z) (fun _ z => absurd hh z) fun _ _ M' hX c => ?_) fun M1 h1 Q k => ok9_bind (by decide) h1.1 hG.1 (fun z => absurd hc z) (fun _ z => absurd hh z) fun _ _ M' hX c => ?_
      · obtain ⟨x, y⟩ := hI.ax (B := (w, bindS s b.toNat a.toNat, pshn n 8, psh n 8 f s, _, g, L, t)) c hX rfl
        exact k M' x y
      · obtain ⟨x, y⟩ := h1.ax (B := (w, bindS s b.toNat a.toNat, pshn n 8, psh n 8 f s, _, g, L, t)) c hX rfl
        exact k M' x y
    · exact pr_q (F := -2) hI hM hG (fun Q k => ok8_bind (by decide) hI.1 hG.1 (fun z => absurd hc z) (fun _ _ => k) fun _ z => absurd z hh) fun M1 h1 Q k => ok9_bind (by decide) h1.1 hG.1 (fun z => absurd hc z) (fun _ _ => k) fun _ z => absurd z hh
  · exact pr_q (F := -1) hI hM hG (fun Q k => ok8_bind (by decide) hI.1 hG.1 (fun _ => k) (fun z => absurd z hc) fun z => absurd z hc) fun M1 h1 Q k => ok9_bind (by decide) h1.1 hG.1 (fun _ => k) (fun z => absurd z hc) fun z => absurd z hc
theorem p11_loosen (h : BiS M) (b : Int) : PrC G mX8_loosen mX9_loosen [vI b] M := by
  obtain ⟨⟨w, s, n, f, k, g, L, t⟩, hI, hM, hG⟩ := h
  have hn8 : n ≤ 8 := hM.1.2.1.2.1
  by_cases hc : 0 ≤ b ∧ b < w 0 3
  · by_cases hh : s 0 b.toNat = 0
    · exact pr_q (F := -2) hI hM hG (fun Q k => ok8_loosen (by decide) hI.1 hG.1 (fun z => absurd hc z) (fun _ _ => k) fun _ z => absurd hh z) fun M1 h1 Q k => ok9_loosen (by decide) h1.1 hG.1 (fun z => absurd hc z) (fun _ _ => k) fun _ z => absurd hh z
    · have hP : PIv w (bindS s b.toNat 0) := by
        refine ⟨hG.1.1, hG.1.2.1.loose, ?_⟩
        have e3 : bindS s b.toNat 0 3 0 = s 3 0 := by simp [bindS]
        rw [e3]
        exact hG.1.2.2
      refine pr_u (F := ((pc (s 0 b.toNat) 10 : Nat) : Int)) (B := (w, bindS s b.toNat 0, pshn n 8, psh n 8 f s, k, g, L, t)) hM (hG.push hn8 hP) (fun Q k => ok8_loosen (by decide) hI.1 hG.1 (fun z => absurd hc z) (fun _ z => absurd z hh) fun _ _ M' hX c => ?_) fun M1 h1 Q k => ok9_loosen (by decide) h1.1 hG.1 (fun z => absurd hc z) (fun _ z => absurd z hh) fun _ _ M' hX c => ?_
      · obtain ⟨x, y⟩ := hI.ax (B := (w, bindS s b.toNat 0, pshn n 8, psh n 8 f s, _, g, L, t)) c hX rfl
        exact k M' x y
      · obtain ⟨x, y⟩ := h1.ax (B := (w, bindS s b.toNat 0, pshn n 8, psh n 8 f s, _, g, L, t)) c hX rfl
        exact k M' x y
  · exact pr_q (F := -1) hI hM hG (fun Q k => ok8_loosen (by decide) hI.1 hG.1 (fun _ => k) (fun z => absurd z hc) fun z => absurd z hc) fun M1 h1 Q k => ok9_loosen (by decide) h1.1 hG.1 (fun _ => k) (fun z => absurd z hc) fun z => absurd z hc
theorem p12_days (h : BiS M) (a : Int) : PrC G mX8_days mX9_days [vI a] M := by
  obtain ⟨⟨w, s, n, f, k, g, L, t⟩, hI, hM, hG⟩ := h
  have hn8 : n ≤ 8 := hM.1.2.1.2.1
  by_cases hc : 1 ≤ a ∧ a ≤ 40
  · by_cases hh : s 3 0 + a.toNat ≤ 999
    · have hP : PIv w (dyN w s a.toNat) := by
        refine ⟨hG.1.1, dyN_SI hG.1.2.1 hG.1.1 _, ?_⟩
        rw [dyN_3]
        exact hh
      refine pr_u (F := ((esN w s a.toNat : Nat) : Int)) (B := (w, dyN w s a.toNat, pshn n 8, psh n 8 f s, k, g, L, t)) hM (hG.push hn8 hP) (fun Q k => ok8_days (by decide) hI.1 hG.1 (fun z => absurd hc z) (fun _ z => absurd hh z) fun _ _ M' hX c => ?_) fun M1 h1 Q k => ok9_days (by decide) h1.1 hG.1 (fun z => absurd hc z) (fun _ z => absurd hh z) fun _ _ M' hX c => ?_
      · obtain ⟨x, y⟩ := hI.ax (B := (w, dyN w s a.toNat, pshn n 8, psh n 8 f s, _, g, L, t)) c hX rfl
        exact k M' x y
      · obtain ⟨x, y⟩ := h1.ax (B := (w, dyN w s a.toNat, pshn n 8, psh n 8 f s, _, g, L, t)) c hX rfl
        exact k M' x y
    · exact pr_q (F := -2) hI hM hG (fun Q k => ok8_days (by decide) hI.1 hG.1 (fun z => absurd hc z) (fun _ _ => k) fun _ z => absurd z hh) fun M1 h1 Q k => ok9_days (by decide) h1.1 hG.1 (fun z => absurd hc z) (fun _ _ => k) fun _ z => absurd z hh
  · exact pr_q (F := -1) hI hM hG (fun Q k => ok8_days (by decide) hI.1 hG.1 (fun _ => k) (fun z => absurd z hc) fun z => absurd z hc) fun M1 h1 Q k => ok9_days (by decide) h1.1 hG.1 (fun _ => k) (fun z => absurd z hc) fun z => absurd z hc
theorem p13_undo (h : BiS M) : PrC G mX8_undo mX9_undo [] M := by
  obtain ⟨⟨w, s, n, f, k, g, L, t⟩, hI, hM, hG⟩ := h
  cases n with
  | zero => exact pr_q (F := -2) hI hM hG (fun Q k => ok8_undo (by decide) hI.1 (fun _ => k) fun m M' e => absurd e.symm (Nat.succ_ne_zero m)) fun M1 h1 Q k => ok9_undo (by decide) h1.1 (fun _ => k) fun m M' e => absurd e.symm (Nat.succ_ne_zero m)
  | succ n =>
    refine pr_u (F := ((n : Nat) : Int)) (B := (w, f n, n, f, k, g, L, t)) hM ⟨hG.2.2.1 n (Nat.lt_succ_self n), hG.2.1, fun i hi => hG.2.2.1 i (Nat.lt_succ_of_lt hi), hG.2.2.2⟩ (fun Q k => ok8_undo (by decide) hI.1 (fun e => absurd e (Nat.succ_ne_zero n)) fun m M' e hX c => ?_) fun M1 h1 Q k => ok9_undo (by decide) h1.1 (fun e => absurd e (Nat.succ_ne_zero n)) fun m M' e hX c => ?_
    · have em : m = n := (Nat.succ.inj e).symm
      subst em
      obtain ⟨x, y⟩ := hI.ax (B := (w, f m, m, f, _, g, L, t)) c hX rfl
      exact k M' x y
    · have em : m = n := (Nat.succ.inj e).symm
      subst em
      obtain ⟨x, y⟩ := h1.ax (B := (w, f m, m, f, _, g, L, t)) c hX rfl
      exact k M' x y
theorem p25_keep (h : BiS M) : PrC G mX8_keep mX9_keep [] M := by
  obtain ⟨⟨w, s, n, f, k, g, L, t⟩, hI, hM, hG⟩ := h
  have hk2 : k ≤ 2 := hM.1.2.1.2.2.2
  by_cases hc : k = 2
  · exact pr_q (F := -3) hI hM hG (fun Q kk => ok8_keep (by decide) hI.1 (fun _ => kk) fun z => absurd hc (Nat.ne_of_lt z)) fun M1 h1 Q kk => ok9_keep (by decide) h1.1 (fun _ => kk) fun z => absurd hc (Nat.ne_of_lt z)
  · have hk : k < 2 := by omega
    refine pr_u (F := ((k + 1 : Nat) : Int)) (B := (w, s, n, f, k + 1, psh k 2 g s, L, t)) hM ⟨hG.1, hG.2.1, hG.2.2.1, fun i hi => ?_⟩ (fun Q kk => ok8_keep (by decide) hI.1 (fun z => absurd z hc) fun _ M' hX c => ?_) fun M1 h1 Q kk => ok9_keep (by decide) h1.1 (fun z => absurd z hc) fun _ M' hX c => ?_
    · have hi : i < k + 1 := hi
      show PIv w (psh k 2 g s i)
      unfold psh
      rw [if_pos hk]
      split
      · exact hG.1
      · exact hG.2.2.2 i (show i < k by omega)
    · obtain ⟨x, y⟩ := hI.ax (B := (w, s, n, f, k + 1, psh k 2 g s, L, t)) c hX rfl
      exact kk M' x y
    · obtain ⟨x, y⟩ := h1.ax (B := (w, s, n, f, k + 1, psh k 2 g s, L, t)) c hX rfl
      exact kk M' x y
theorem p26_restore (h : BiS M) : PrC G mX8_restore mX9_restore [] M := by
  obtain ⟨⟨w, s, n, f, k, g, L, t⟩, hI, hM, hG⟩ := h
  cases k with
  | zero => exact pr_q (F := -2) hI hM hG (fun Q kk => ok8_restore (by decide) hI.1 (fun _ => kk) fun m M' e => absurd e.symm (Nat.succ_ne_zero m)) fun M1 h1 Q kk => ok9_restore (by decide) h1.1 (fun _ => kk) fun m M' e => absurd e.symm (Nat.succ_ne_zero m)
  | succ k =>
    refine pr_u (F := ((k : Nat) : Int)) (B := (w, g k, 0, f, k, g, L, t)) hM ⟨hG.2.2.2 k (Nat.lt_succ_self k), hG.2.1, fun i hi => absurd hi (Nat.not_lt_zero i), fun i hi => hG.2.2.2 i (Nat.lt_succ_of_lt hi)⟩ (fun Q kk => ok8_restore (by decide) hI.1 (fun e => absurd e (Nat.succ_ne_zero k)) fun m M' e hX c => ?_) fun M1 h1 Q kk => ok9_restore (by decide) h1.1 (fun e => absurd e (Nat.succ_ne_zero k)) fun m M' e hX c => ?_
    · have em : m = k := (Nat.succ.inj e).symm
      subst em
      obtain ⟨x, y⟩ := hI.ax (B := (w, g m, 0, f, m, g, L, t)) c hX rfl
      exact kk M' x y
    · have em : m = k := (Nat.succ.inj e).symm
      subst em
      obtain ⟨x, y⟩ := h1.ax (B := (w, g m, 0, f, m, g, L, t)) c hX rfl
      exact kk M' x y
end CALLT
