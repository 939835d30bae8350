/-! ===== a row of days, of the class ===== -/
def rwS (w s : WT) (z : Nat) : Nat → WT
  | 0 => s
  | i + 1 => dayS w (actS w (rwS w s z i) (drw z i))
def rwE (w s : WT) (z : Nat) : Nat → Nat
  | 0 => 0
  | i + 1 => rwE w s z i + escS w (actS w (rwS w s z i) (drw z i))
theorem act_3 {w s : WT} {D : Nat} : actS w s D 3 0 = s 3 0 := by
  have hb : ∀ b r, bindS s b r 3 0 = s 3 0 := fun b r => by simp [bindS]
  unfold actS
  split
  · split
    · exact hb _ _
    · rfl
  · cases bst w (goneS s) (lsP w (goneS s) (w 7 (D % w 0 3))) (2 ^ w 0 0) with
    | none => rfl
    | some r => exact hb _ _
theorem SI.act {w s : WT} {D : Nat} (h : SI w s) (hW : WOk w) (hl : 1 ≤ w 0 3) : SI w (actS w s D) := by
  unfold actS
  split
  · split
    · exact h.loose
    · exact h
  · rename_i h0
    cases e : bst w (goneS s) (lsP w (goneS s) (w 7 (D % w 0 3))) (2 ^ w 0 0) with
    | none => exact h
    | some r =>
      have hr := bst_in e
      obtain ⟨_, a2, a3⟩ := lsP_t.mp hr.2
      exact h.bindI hW (Nat.mod_lt _ (by omega)) hr.1 (sub_nd.mp a2) a3 (by omega)
theorem rwS_3 {w s : WT} {z : Nat} : ∀ i, rwS w s z i 3 0 = s 3 0 + i
  | 0 => rfl
  | i + 1 => by
    have e : rwS w s z (i + 1) 3 0 = actS w (rwS w s z i) (drw z i) 3 0 + 1 := rfl
    rw [e, act_3, rwS_3 i]
    omega
theorem rwS_SI {w s : WT} {z : Nat} (h : SI w s) (hW : WOk w) (hl : 1 ≤ w 0 3) : ∀ i, SI w (rwS w s z i)
  | 0 => h
  | i + 1 => ((rwS_SI h hW hl i).act hW hl).day hW
theorem rwE_le {w s : WT} {z : Nat} : ∀ i, rwE w s z i ≤ 4 * i
  | 0 => Nat.le_refl _
  | i + 1 => by
    have := rwE_le (w := w) (s := s) (z := z) i
    have := escS_le (w := w) (s := actS w (rwS w s z i) (drw z i))
    show rwE w s z i + escS w (actS w (rwS w s z i) (drw z i)) ≤ _
    omega
def aRow (w s : WT) (z n k : Int) : Int := if (0 ≤ z ∧ z ≤ 9999) ∧ (1 ≤ n ∧ n ≤ 40) ∧ (0 ≤ k ∧ k ≤ 1) then (if k = 0 then (los w (foundS (rwS w s z.toNat n.toNat) (km w 3)) : Nat) else (rwE w s z.toNat n.toNat : Nat)) else -1
section ROW
variable {G : GG} {M : MM} {d : Nat} {Q : Option AV → MM → Prop} {w s : WT}
theorem ok8_row {z n k : Int} (hd : 4 ≤ d) (hX : XIv M w s) (hP : PIv w s) (hl : 1 ≤ w 0 3) (kk : ∀ M', Ch (fun q => Pst 39 q ∨ q = 87) M M' → Q (some (vI (aRow w s z n k))) M') : Ok G mX8_row d 0 0 [vR 1, vI z, vI n, vI k] M Q := by
  obtain ⟨d, rfl⟩ : ∃ e, d = e + 1 := ⟨d - 1, by omega⟩
  refine Ok_of rfl (Nat.le_of_ble_eq_true rfl) rfl ?_
  have hW := hP.1
  have hdy := hP.2.2
  unfold aRow at kk
  have bad : ¬ ((0 ≤ z ∧ z ≤ 9999) ∧ (1 ≤ n ∧ n ≤ 40) ∧ (0 ≤ k ∧ k ≤ 1)) → Q (some (vI (-1))) M := fun h => by
    have := kk M Ch.rf
    rwa [if_neg h] at this
  refine bX8_row_0 _ _ _ hX.1 ⟨fun h => bad (by omega), fun h1 => ⟨fun h => bad (by omega), fun h2 => ⟨fun h => bad (by omega), fun h3 => ⟨fun h => bad ?_, fun h4 => ⟨fun h => bad (by omega), fun h5 => ⟨fun h6 => ?_, fun h => bad (by omega)⟩⟩⟩⟩⟩⟩
  · have : 40 < n := by
      rcases Classical.em (40 < n) with q | q
      · exact q
      · rw [if_neg q] at h; exact absurd h (by decide)
    omega
  have h4 : ¬ 40 < n := fun q => h4 (if_pos q)
  rw [if_pos (by omega)] at kk
  obtain ⟨z, rfl⟩ := nat_of (show 0 ≤ z by omega)
  obtain ⟨n, rfl⟩ := nat_of (show 0 ≤ n by omega)
  rw [Int.toNat_natCast, Int.toNat_natCast] at kk
  refine ok_copyFrom rfl rfl hX.1 (by decide) hX.2.2.2 fun M1 c1 hV1 => ⟨rfl, hX.1.ch c1, ?_⟩
  have keep : ∀ M', Ch (fun q => Pst 39 q ∨ q = 87) M M' → XIv M' w s := fun M' c => hX.cx (ChX.ch c fun q hq => by unfold Pst at hq; omega) (hX.1.ch c) (hX.2.2.2.eq fun r j hr => c.2.2 r j (by unfold Pst at hr ⊢; omega))
  refine down (fun i => ∀ M', Ch (fun q => Pst 39 q ∨ q = 87) M M' → SV M' 39 (rwS w s z i) → Wp G mX8_row (d + 1) 0 0 62 [some (vR 1), some (vI z), some (vI n), some (vI k), none, some (vI (rwE w s z i : Nat)), some (vI (i : Int))] [] M' 0 0 Q) (n := n) ?_ ?_ 0 (Nat.zero_le _) M1 (c1.mono fun q hq => Or.inl hq) hV1
  · intro M' c hV
    have hX' := keep M' c
    have e3 := rwS_3 (w := w) (s := s) (z := z) n
    have kk := kk M' c
    refine bX8_row_62 _ _ _ _ _ hX'.1 ⟨fun _ => ⟨fun k0 => by rwa [if_neg k0] at kk, fun k0 => ?_⟩, fun h => absurd (Int.le_refl _) h⟩
    rw [if_pos k0] at kk
    exact ok8_missedIn (by omega) rfl hX'.1 hX'.2.1 hX'.2.2.1 hV hW (rwS_SI hP.2.1 hW hl n) (by omega) ⟨_, rfl, hX'.1, kk⟩
  · intro i hi ih M' c hV
    have hX' := keep M' c
    have e3 := rwS_3 (w := w) (s := s) (z := z) i
    have hle := rwE_le (w := w) (s := s) (z := z) i
    have hSI := rwS_SI (z := z) hP.2.1 hW hl i
    have hdl : drw z i < 65521 := Nat.mod_lt _ (by decide)
    refine bX8_row_62 _ _ _ _ _ hX'.1 ⟨fun h => absurd h (by omega), fun _ => ok8_draw (by omega) (by omega) ⟨_, rfl, hX'.1, ok8_actByDraw (by omega) hX' hW hl hdl hV hSI (by omega) fun M2 c2 hV2 => ⟨rfl, hX'.1.ch c2, ?_⟩⟩⟩
    have hX2 := keep M2 (c.tr c2)
    have hl2 := escS_le (w := w) (s := actS w (rwS w s z i) (drw z i))
    have a3 := act_3 (w := w) (s := rwS w s z i) (D := drw z i)
    refine ok_passDay (by omega) rfl (xlaid hX2.1) hX2.1 hX2.2.1 hW hX2.2.2.1 hV2 (hSI.act hW hl) (by omega) fun M3 c3 hV3 => ⟨_, rfl, hX2.1.ch c3, ⟨by omega, by omega⟩, ⟨by omega, by omega⟩, ih M3 ((c.tr c2).tr (c3.mono fun q hq => Or.inl hq)) hV3⟩
end ROW
