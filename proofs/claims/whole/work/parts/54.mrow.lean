/-! ===== a row of days, of the reference ===== -/
theorem RV.bindB {M : MM} {s : WT} {p b r : Nat} (hb : b < 4) (h : RV M p s) : RV (stI (stI M 97 (p + b) (r : Nat)) 97 (p + 4 + b) 0) p (bindS s b r) := by
  refine ⟨fun c hc => ⟨?_, ?_, ?_⟩, ?_⟩
  · rw [gI_ne _ _ (by omega), gI_st]
    unfold bindS
    by_cases e : c = b
    · rw [if_pos ⟨rfl, by omega⟩, if_pos ⟨rfl, e⟩]
    · rw [if_neg (by omega), if_neg (fun z => e z.2), if_neg (fun z => e z.2)]; exact (h.1 c hc).1
  · rw [gI_st]
    unfold bindS
    by_cases e : c = b
    · rw [if_pos ⟨rfl, by omega⟩, if_neg (by omega), if_pos ⟨rfl, e⟩]; rfl
    · rw [if_neg (by omega), gI_ne _ _ (by omega), if_neg (by omega), if_neg (fun z => e z.2)]; exact (h.1 c hc).2.1
  · rw [gI_ne _ _ (by omega), gI_ne _ _ (by omega)]
    unfold bindS
    rw [if_neg (by omega), if_neg (by omega)]; exact (h.1 c hc).2.2
  · rw [gI_ne _ _ (by omega), gI_ne _ _ (by omega)]
    unfold bindS
    rw [if_neg (by omega), if_neg (by omega)]; exact h.2
/-- a beast that is loose, bound with nothing, is as it was, but for its age -/
theorem bind_0 {w s : WT} {b : Nat} (h : SI w s) (hb : b < 4) (h0 : s 0 b = 0) : bindS s b 0 = s := by
  funext j c
  unfold bindS
  by_cases e : j = 0 ∧ c = b
  · rw [if_pos e, e.1, e.2, h0]
  · rw [if_neg e]
    by_cases e1 : j = 1 ∧ c = b
    · rw [if_pos e1, e1.1, e1.2, (h.1 b hb).2.2.1 h0]
    · rw [if_neg e1]
section MROW
variable {G : GG} {M : MM} {d : Nat} {Q : Option AV → MM → Prop} {w s : WT}
theorem ok9_row {z n k : Int} (hd : 4 ≤ d) (hX : MIv M w s) (hP : PIv w s) (hl : 1 ≤ w 0 3) (kk : ∀ M', ChR 13 M M' → Q (some (vI (aRow w s z n k))) M') : Ok G mX9_row d 0 0 [vR 96, vI z, vI n, vI k] M Q := by
  obtain ⟨d, rfl⟩ : ∃ e, d = e + 1 := ⟨d - 1, by omega⟩
  refine Ok_of rfl (Nat.le_of_ble_eq_true rfl) rfl ?_
  have hW := hP.1
  have hdy := hP.2.2
  have h4 := hW.1.2.2.2.1
  unfold aRow at kk
  have bad : ¬ ((0 ≤ z ∧ z ≤ 9999) ∧ (1 ≤ n ∧ n ≤ 40) ∧ (0 ≤ k ∧ k ≤ 1)) → Q (some (vI (-1))) M := fun h => by
    have := kk M ChR.rf
    rwa [if_neg h] at this
  refine bX9_row_0 _ _ _ hX.1 (ok_in ⟨_, rfl, hX.1, fun h => bad fun y => ?_, fun h1 => ok_in ⟨_, rfl, hX.1, fun h => bad fun y => ?_, fun h2 => ok_in ⟨_, rfl, hX.1, fun h3 => ?_, fun h => bad fun y => ?_⟩⟩⟩)
  · rw [if_pos y.1] at h; exact absurd h (by decide)
  · rw [if_pos y.2.1] at h; exact absurd h (by decide)
  · have q1 : 0 ≤ z ∧ z ≤ 9999 := by
      rcases Classical.em (0 ≤ z ∧ z ≤ 9999) with q | q
      · exact q
      · exact absurd (if_neg q) h1
    have q2 : 1 ≤ n ∧ n ≤ 40 := by
      rcases Classical.em (1 ≤ n ∧ n ≤ 40) with q | q
      · exact q
      · exact absurd (if_neg q) h2
    have q3 : 0 ≤ k ∧ k ≤ 1 := by
      rcases Classical.em (0 ≤ k ∧ k ≤ 1) with q | q
      · exact q
      · exact absurd (if_neg q) h3
    clear h1 h2 h3
    rw [if_pos ⟨q1, q2, q3⟩] at kk
    obtain ⟨z, rfl⟩ := nat_of q1.1
    obtain ⟨n, rfl⟩ := nat_of (show 0 ≤ n by omega)
    rw [Int.toNat_natCast, Int.toNat_natCast] at kk
    refine ok9_copy (a := 0) (b := 13) hX.1 hX.2.2 (by decide) (by decide) (by decide) fun M1 c1 hR1 => ⟨rfl, c1.sh hX.1, ?_⟩
    refine down (fun i => ∀ M', ChR 13 M M' → RV M' 13 (rwS w s z i) → Wp G mX9_row (d + 1) 0 0 49 [some (vR 96), some (vI z), some (vI n), some (vI k), some (vI (rwE w s z i : Nat)), some (vI (i : Int)), none, none, none, none, none] [] M' 0 0 Q) (n := n) ?_ ?_ 0 (Nat.zero_le _) M1 c1 hR1
    · intro M' c hR
      have kk := kk M' c
      have e3 := rwS_3 (w := w) (s := s) (z := z) n
      refine bX9_row_49 _ _ _ _ _ (c.sh hX.1) ⟨fun _ => ⟨fun k0 => by rwa [if_neg k0] at kk, fun k0 => ?_⟩, fun h => absurd (Int.le_refl _) h⟩
      rw [if_pos k0] at kk
      exact ok9_missedIn (base := 13) (by omega) (c.sh hX.1) (c.mw hX.2.1) hW (rwS_SI hP.2.1 hW hl n) hR (by decide) ⟨_, rfl, c.sh hX.1, kk⟩
    · intro i hi ih M' c hR
      have hS' := c.sh hX.1
      have hw' := c.mw hX.2.1
      have e3 := rwS_3 (w := w) (s := s) (z := z) i
      have hle := rwE_le (w := w) (s := s) (z := z) i
      have hSI := rwS_SI (z := z) hP.2.1 hW hl i
      obtain ⟨b1, b2⟩ := drw_b (z := z) (k := i) (by omega) (by omega)
      have a3 := act_3 (w := w) (s := rwS w s z i) (D := drw z i)
      have hSA := hSI.act (D := drw z i) hW hl
      have hl2 := escS_le (w := w) (s := actS w (rwS w s z i) (drw z i))
      have day : ∀ M2, ChR 13 M' M2 → RV M2 13 (actS w (rwS w s z i) (drw z i)) → Ok G mX9_dayIn d 0 0 [vR 96, vI 13] M2 (fun v M8 => ∃ r9 : Int, v = some (vI r9) ∧ ShM M8 ∧ (R32 ((rwE w s z i : Nat) + r9) ∧ (R32 ((i : Int) + 1) ∧ (Wp G mX9_row (d + 1) 0 0 49 [some (vR 96), some (vI z), some (vI n), some (vI k), some (vI ((rwE w s z i : Nat) + r9)), some (vI ((i : Int) + 1)), none, none, none, none, none] [] M8 0 0 Q)))) := fun M2 c2 hR2 =>
        ok9_dayIn (base := 13) (by omega) (c2.sh hS') (c2.mw hw') hW hR2 hSA (by omega) (by decide) fun M3 c3 hR3 => ⟨_, rfl, c3.sh (c2.sh hS'), ⟨by omega, by omega⟩, ⟨by omega, by omega⟩, ih M3 ((c.tr c2).tr c3) hR3⟩
      have e : 7919 * (z : Int) + 6151 * (i : Int) + 1 = ((7919 * z + 6151 * i + 1 : Nat) : Int) := by omega
      have e2 : ((7919 * z + 6151 * i + 1 : Nat) : Int) * ((7919 * z + 6151 * i + 1 : Nat) : Int) = (((7919 * z + 6151 * i + 1) * (7919 * z + 6151 * i + 1) : Nat) : Int) := (Int.natCast_mul _ _).symm
      refine bX9_row_49 _ _ _ _ _ hS' ⟨fun h => absurd h (by omega), fun _ => ?_⟩
      rw [hw'.1.2.2.2.1, e, e2, show (65521 : Int) = ((65521 : Nat) : Int) from rfl, tmod_n, tmod_n, show (8 : Int) = ((8 : Nat) : Int) from rfl, tdiv_n, show (4 : Int) = ((4 : Nat) : Int) from rfl, tmod_n]
      have ed : (7919 * z + 6151 * i + 1) * (7919 * z + 6151 * i + 1) % 65521 = drw z i := rfl
      have hdl : drw z i < 65521 := Nat.mod_lt _ (by decide)
      rw [ed]
      generalize (7919 * z + 6151 * i + 1) * (7919 * z + 6151 * i + 1) = y at *
      unfold actS at day hSA
      have hb := Nat.mod_lt (drw z i) (show 0 < w 0 3 by omega)
      have hq := Nat.div_le_self (drw z i) 8
      generalize rwS w s z i = t at *
      generalize drw z i = D at *
      generalize D % w 0 3 = b at *
      generalize D / 8 = q at *
      have er : (13 + (b : Int)).toNat = 13 + b := by omega
      rw [er, (hR.1 b (by omega)).1, Int.toNat_natCast, hw'.2.2.2.1 b hb]
      have tied : ∀ r : Nat, ChR 13 M' (stI (stI M' 97 (13 + b) (r : Nat)) 97 (13 + 4 + b) 0) := fun r => (ChR.rf.st (by omega) (by omega)).st (by omega) (by omega)
      refine ⟨⟨by omega, by omega⟩, ⟨by omega, by omega⟩, ⟨by omega, by omega⟩, ⟨by omega, by omega⟩, ⟨by omega, by omega⟩, ⟨by omega, by omega⟩, by omega, ⟨by omega, by omega⟩, ⟨by omega, by omega⟩, fun h0 => ?_, fun h0 => ?_⟩
      · rw [if_pos (show t 0 b ≠ 0 by omega)] at day
        refine ⟨⟨by omega, by omega⟩, fun h8 => ?_, fun h8 => ok9_bindIn (base := 13) (x := 0) hS' (by decide) (by omega) ⟨rfl, (tied 0).sh hS', ?_⟩⟩
        · rw [if_neg (by omega)] at day
          exact day M' ChR.rf hR
        · rw [if_pos (by omega)] at day
          exact day _ (tied 0) (RV.bindB (by omega) hR)
      · rw [if_neg (show ¬ t 0 b ≠ 0 by omega)] at day
        refine ⟨⟨by omega, by omega⟩, ok9_leastIn (base := 13) (by omega) hS' hw' hW hSI hR (by decide) ⟨_, rfl, hS', ?_⟩⟩
        cases hbs : bst w (goneS t) (lsP w (goneS t) (w 7 b)) (2 ^ w 0 0) with
        | none =>
          rw [hbs] at day
          refine ok9_bindIn (base := 13) (x := 0) hS' (by decide) (by omega) ⟨rfl, (tied 0).sh hS', ?_⟩
          have hb0 := RV.bindB (r := 0) (show b < 4 by omega) hR
          rw [bind_0 hSI (by omega) (by omega)] at hb0
          exact day _ (tied 0) hb0
        | some r =>
          rw [hbs] at day
          show Ok G mX9_bindIn d 0 0 [vR 96, vI 13, vI (b : Int), vI (if ((r : Nat) : Int) = -4 then 0 else ((r : Nat) : Int))] M' _
          rw [if_neg (by omega)]
          exact ok9_bindIn (base := 13) (x := r) hS' (by decide) (by omega) ⟨rfl, (tied r).sh hS', day _ (tied r) (RV.bindB (by omega) hR)⟩
  · rw [if_pos y.2.2] at h; exact absurd h (by decide)
end MROW
