/-! ===== a day's act by a draw, of the class ===== -/
def drw (z k : Nat) : Nat := (7919 * z + 6151 * k + 1) * (7919 * z + 6151 * k + 1) % 65521
def actS (w s : WT) (D : Nat) : WT := if s 0 (D % w 0 3) ≠ 0 then (if D / 8 % 4 = 0 then bindS s (D % w 0 3) 0 else s) else (match bst w (goneS s) (lsP w (goneS s) (w 7 (D % w 0 3))) (2 ^ w 0 0) with
  | none => s
  | some r => bindS s (D % w 0 3) r)
section DRAW
variable {G : GG} {M : MM} {d : Nat} {Q : Option AV → MM → Prop} {w s s0 : WT}
theorem drw_b {z k : Nat} (hz : z ≤ 9999) (hk : k ≤ 40) : 7919 * z + 6151 * k + 1 ≤ 80000000 ∧ (7919 * z + 6151 * k + 1) * (7919 * z + 6151 * k + 1) ≤ 6400000000000000 := by
  have h1 : 7919 * z + 6151 * k + 1 ≤ 80000000 := by omega
  have h2 := Nat.mul_le_mul h1 h1
  exact ⟨h1, by omega⟩
theorem ok8_draw {z k : Nat} (hz : z ≤ 9999) (hk : k ≤ 40) (kk : Q (some (vI (drw z k : Nat))) M) : Ok G mX8_draw d 0 0 [vI z, vI k] M Q := by
  refine Ok_of rfl (Nat.le_of_ble_eq_true rfl) rfl ?_
  obtain ⟨h1, h2⟩ := drw_b hz hk
  unfold drw at kk
  refine bX8_draw_0 _ _ ?_
  have e : 7919 * (z : Int) + 6151 * (k : Int) + 1 = ((7919 * z + 6151 * k + 1 : Nat) : Int) := by omega
  rw [e]
  generalize 7919 * z + 6151 * k + 1 = x at *
  have e2 : (x : Int) * (x : Int) = ((x * x : Nat) : Int) := (Int.natCast_mul _ _).symm
  rw [e2, show (65521 : Int) = ((65521 : Nat) : Int) from rfl, tmod_n]
  have hm := Nat.mod_lt (x * x) (show 0 < 65521 by decide)
  generalize x * x = y at *
  generalize y % 65521 = r at *
  exact ⟨⟨by omega, by omega⟩, ⟨by omega, by omega⟩, ⟨by omega, by omega⟩, ⟨by omega, by omega⟩, ⟨by omega, by omega⟩, ⟨by omega, by omega⟩, kk⟩
theorem ok8_actByDraw {D : Nat} (hd : 3 ≤ d) (hX : XIv M w s0) (hW : WOk w) (hl : 1 ≤ w 0 3) (hD : D < 65521) (hV : SV M 39 s) (hI : SI w s) (hdy : s 3 0 ≤ 2000) (kk : ∀ M', Ch (fun q => Pst 39 q ∨ q = 87) M M' → SV M' 39 (actS w s D) → Q none M') : Ok G mX8_actByDraw d 0 0 [vR 1, vR 39, vI D] M Q := by
  obtain ⟨d, rfl⟩ : ∃ e, d = e + 1 := ⟨d - 1, by omega⟩
  refine Ok_of rfl (Nat.le_of_ble_eq_true rfl) rfl ?_
  have h4 := hW.1.2.2.2.1
  have hS := hX.1
  have e3 := hX.2.1.1 3 (by decide)
  unfold actS at kk
  refine bX8_actByDraw_0 _ rfl _ hS ?_
  rw [e3, tmod_n, show (8 : Int) = ((8 : Nat) : Int) from rfl, tdiv_n, show (4 : Int) = ((4 : Nat) : Int) from rfl, tmod_n]
  have hb := Nat.mod_lt D (show 0 < w 0 3 by omega)
  have hq := Nat.div_le_self D 8
  generalize D % w 0 3 = b at *
  generalize D / 8 = q at *
  refine ⟨fun _ => ⟨by omega, ok_isBound (by omega) rfl hS ⟨_, rfl, hS, ?_⟩⟩, fun z => absurd (by omega) z⟩
  rw [if_pos (show (0 : Int) ≤ b ∧ (b : Int) < 4 by omega), Int.toNat_natCast, (hV.1 b (by omega)).1]
  have tied : ∀ r : Nat, ∀ M', Ch (fun q => Pst 39 q ∨ q = 87) M M' → SV M' 39 s → Ch (fun q => Pst 39 q ∨ q = 87) M (stI (stI M' (39 + 1) b (r : Nat)) (39 + 2) b 0) ∧ SV (stI (stI M' (39 + 1) b (r : Nat)) (39 + 2) b 0) 39 (bindS s b r) := fun r M' c hv =>
    ⟨(c.st (Or.inl (Or.inr (Or.inl rfl)))).st (Or.inl (Or.inr (Or.inr (Or.inl rfl)))), SV.bind (by omega) hv⟩
  refine ⟨fun z => ?_, fun z => ?_⟩
  · have hs0 : s 0 b ≠ 0 := fun y => by rw [y] at z; exact absurd rfl z
    rw [if_pos hs0] at kk
    refine ⟨⟨by omega, by omega⟩, fun y => ?_, fun y => ok_untie (by omega) rfl hS (by omega) (by omega) ⟨rfl, hS.of rfl, ?_⟩⟩
    · rw [if_neg (by omega)] at kk
      exact kk M Ch.rf hV
    · rw [if_pos (by omega)] at kk
      rw [Int.toNat_natCast]
      obtain ⟨t1, t2⟩ := tied 0 M Ch.rf hV
      exact kk _ t1 t2
  · have hs0 : ¬ s 0 b ≠ 0 := fun y => by rw [if_neg (by omega)] at z; exact absurd z (by decide)
    rw [if_neg hs0] at kk
    refine ok_pullOfBeast (by omega) (xlaid hS) hS hX.2.1 hW hb ⟨_, rfl, hS, ok_gone rfl hS hV (hI.sb hW hdy) ⟨_, rfl, hS, ok_findLeast (by omega) hS hX.2.2.1 hW (goneS_lt' hI) (fun M' c e => ⟨_, rfl, hS.ch c, fun _ => ?_, fun y => absurd rfl y⟩) (fun M' r c e g0 g1 => ⟨_, rfl, hS.ch c, fun y => absurd y (by decide), fun _ => ok_tie rfl (hS.ch c) (by omega) (by omega) ⟨rfl, (hS.ch c).of rfl, ?_⟩⟩)⟩⟩
    · rw [e] at kk
      exact kk M' (c.mono fun q hq => Or.inr hq) (hV.eq fun r j hr => c.2.2 r j (by unfold Pst at hr; omega))
    · rw [e] at kk
      rw [g0, Int.toNat_natCast]
      obtain ⟨t1, t2⟩ := tied r M' (c.mono fun q hq => Or.inr hq) (hV.eq fun r j hr => c.2.2 r j (by unfold Pst at hr; omega))
      exact kk _ t1 t2
end DRAW
