/-! ===== pledge: class and reference ===== -/
def lo (w : WT) (i j : Nat) : Nat := (if i = j then 3 else 1) * w 6 i
def rsb (w : WT) (i j : Nat) : Nat → Bool
  | 0 => true
  | n + 1 => rsb w i j n && decide (lo w i j ≤ lo w n j ∧ lo w i n ≤ lo w i j)
def pj (w : WT) (i : Nat) (x : Nat × Int) : Nat → Nat × Int
  | 0 => x
  | j + 1 => if rsb w i j (w 0 2) then ((pj w i x j).1 + 1, (if (pj w i x j).1 = 0 then 8 * (i : Int) + (j : Int) else (pj w i x j).2)) else pj w i x j
def pi2 (w : WT) : Nat → Nat × Int
  | 0 => (0, -4)
  | i + 1 => pj w i (pi2 w i) (w 0 2)
theorem pj_le {w : WT} {i : Nat} {x : Nat × Int} : ∀ j, (pj w i x j).1 ≤ x.1 + j
  | 0 => Nat.le_refl _
  | j + 1 => by
    have := pj_le (w := w) (i := i) (x := x) j
    unfold pj
    split
    · show (pj w i x j).1 + 1 ≤ _
      omega
    · omega
theorem pi2_le {w : WT} (hW : WOk w) : ∀ i, (pi2 w i).1 ≤ 8 * i
  | 0 => Nat.le_refl _
  | i + 1 => by
    have := pi2_le hW i
    have := pj_le (w := w) (i := i) (x := pi2 w i) (w 0 2)
    have := hW.1.2.2.1
    show (pj w i (pi2 w i) (w 0 2)).1 ≤ _
    omega
theorem lo_le {w : WT} (hW : WOk w) {i j : Nat} (hi : i < w 0 2) : lo w i j ≤ 27 := by
  have := (hW.2.2.2.1 i hi).2.2
  unfold lo
  split <;> omega
theorem rsb_f {w : WT} {i j m : Nat} (h : rsb w i j m = false) : ∀ n, m ≤ n → rsb w i j n = false := by
  intro n
  induction n with
  | zero => intro z; rw [show m = 0 by omega] at h; exact h
  | succ n ih =>
    intro z
    rcases Nat.lt_or_ge n m with q | q
    · rw [show n + 1 = m by omega]; exact h
    · show (rsb w i j n && _) = false
      rw [ih q]; rfl
def aPledge (w : WT) (k : Int) : Int := if 0 ≤ k ∧ k ≤ 1 then (if k = 0 then ((pi2 w (w 0 2)).1 : Int) else (pi2 w (w 0 2)).2) else -1
section PLEDG
variable {G : GG} {M : MM} {d : Nat} {Q : Option AV → MM → Prop} {w s : WT}
theorem ok8_pledgeLoss {i j : Nat} (hd : 2 ≤ d) (hX : XIv M w s) (hW : WOk w) (hi : i < w 0 2) (kk : Q (some (vI (lo w i j : Nat))) M) : Ok G mX8_pledgeLoss d 0 0 [vR 1, vI i, vI j] M Q := by
  obtain ⟨d, rfl⟩ : ∃ e, d = e + 1 := ⟨d - 1, by omega⟩
  refine Ok_of rfl (Nat.le_of_ble_eq_true rfl) rfl ?_
  have h9 := (hW.2.2.2.1 i hi).2.2
  refine bX8_pledgeLoss_0 _ _ hX.1 (ok_weightOfPerson (by omega) (xlaid hX.1) hX.1 hX.2.1 hW hi ⟨_, rfl, hX.1, ?_⟩)
  have e : (if (i : Int) = (j : Int) then (3 : Int) else 1) * ((w 6 i : Nat) : Int) = ((lo w i j : Nat) : Int) := by
    unfold lo
    by_cases h : i = j
    · rw [if_pos (by omega), if_pos h]; omega
    · rw [if_neg (by omega), if_neg h]; omega
  have hl := lo_le hW (j := j) hi
  rw [e]
  exact ⟨⟨by omega, by omega⟩, kk⟩
theorem ok8_pledgeRests {i j : Nat} (hd : 3 ≤ d) (hX : XIv M w s) (hW : WOk w) (hi : i < w 0 2) (hj : j < w 0 2) (kk : Q (some (vI (if rsb w i j (w 0 2) then 1 else 0))) M) : Ok G mX8_pledgeRests d 0 0 [vR 1, vI i, vI j] M Q := by
  obtain ⟨d, rfl⟩ : ∃ e, d = e + 1 := ⟨d - 1, by omega⟩
  refine Ok_of rfl (Nat.le_of_ble_eq_true rfl) rfl ?_
  have e2 := hX.2.1.1 2 (by decide)
  have h8 := hW.1.2.2.1
  refine bX8_pledgeRests_0 _ _ hX.1 (ok8_pledgeLoss (by omega) hX hW hi ⟨_, rfl, hX.1, ?_⟩)
  refine down (fun n => rsb w i j n = true → Wp G mX8_pledgeRests (d + 1) 0 0 10 [some (vR 1), some (vI i), some (vI j), some (vI (lo w i j : Nat)), some (vI (n : Int))] [] M 0 0 Q) (n := w 0 2) ?_ ?_ 0 (Nat.zero_le _) rfl
  · intro h
    rw [h] at kk
    exact bX8_pledgeRests_10 _ _ _ _ hX.1 ⟨fun _ => kk, fun h => absurd h (by omega)⟩
  · intro n hn ih h
    have en : rsb w i j (n + 1) = decide (lo w i j ≤ lo w n j ∧ lo w i n ≤ lo w i j) := by
      show (rsb w i j n && _) = _
      rw [h, Bool.true_and]
    have no : ¬ (lo w i j ≤ lo w n j ∧ lo w i n ≤ lo w i j) → Q (some (vI 0)) M := fun z => by
      rw [rsb_f (m := n + 1) (by rw [en]; exact decide_eq_false z) (w 0 2) hn] at kk
      exact kk
    refine bX8_pledgeRests_10 _ _ _ _ hX.1 ⟨fun h => absurd h (by omega), fun _ => ok8_pledgeLoss (by omega) hX hW hn ⟨_, rfl, hX.1, fun hlt => no (by omega), fun hge => ok8_pledgeLoss (by omega) hX hW hi ⟨_, rfl, hX.1, fun hle => ⟨⟨by omega, by omega⟩, ih ?_⟩, fun hgt => no (by omega)⟩⟩⟩
    rw [en]
    exact decide_eq_true (by omega)
theorem ok8_pledge {k : Int} (hd : 4 ≤ d) (hX : XIv M w s) (hP : PIv w s) (kk : Q (some (vI (aPledge w k))) M) : Ok G mX8_pledge d 0 0 [vR 1, vI k] M Q := by
  obtain ⟨d, rfl⟩ : ∃ e, d = e + 1 := ⟨d - 1, by omega⟩
  refine Ok_of rfl (Nat.le_of_ble_eq_true rfl) rfl ?_
  unfold aPledge at kk
  have hW := hP.1
  have e2 := hX.2.1.1 2 (by decide)
  have h8 := hW.1.2.2.1
  refine bX8_pledge_0 _ hX.1 ⟨fun h => by rwa [if_neg (by omega)] at kk, fun h1 => ⟨fun h2 => ?_, fun h => by rwa [if_neg (by omega)] at kk⟩⟩
  rw [if_pos (by omega)] at kk
  refine down (fun i => Wp G mX8_pledge (d + 1) 0 0 19 [some (vR 1), some (vI k), some (vI ((pi2 w i).1 : Nat)), some (vI (pi2 w i).2), some (vI (i : Int)), none] [] M 0 0 Q) (n := w 0 2) ?_ ?_ 0 (Nat.zero_le _)
  · exact bX8_pledge_19 _ _ _ _ hX.1 ⟨fun _ => by
      by_cases k0 : k = 0
      · rw [if_pos k0] at kk ⊢; exact kk
      · rw [if_neg k0] at kk ⊢; exact kk, fun h => absurd h (by omega)⟩
  · intro i hi ih
    refine bX8_pledge_19 _ _ _ _ hX.1 ⟨fun h => absurd h (by omega), fun _ => ?_⟩
    have hle := pi2_le hW i
    have ei : pi2 w (i + 1) = pj w i (pi2 w i) (w 0 2) := rfl
    rw [ei] at ih
    generalize pi2 w i = x at *
    refine down (fun j => Wp G mX8_pledge (d + 1) 0 0 34 [some (vR 1), some (vI k), some (vI ((pj w i x j).1 : Nat)), some (vI (pj w i x j).2), some (vI (i : Int)), some (vI (j : Int))] [] M 0 0 Q) (n := w 0 2) ?_ ?_ 0 (Nat.zero_le _)
    · exact bX8_pledge_34 _ _ _ _ _ hX.1 ⟨fun _ => ⟨⟨by omega, by omega⟩, ih⟩, fun h => absurd h (by omega)⟩
    · intro j hj ihj
      have hl := pj_le (w := w) (i := i) (x := x) j
      have ej : pj w i x (j + 1) = if rsb w i j (w 0 2) then ((pj w i x j).1 + 1, (if (pj w i x j).1 = 0 then 8 * (i : Int) + (j : Int) else (pj w i x j).2)) else pj w i x j := rfl
      rw [ej] at ihj
      generalize pj w i x j = y at *
      have r32 : R32 ((j : Int) + 1) := ⟨by omega, by omega⟩
      refine bX8_pledge_34 _ _ _ _ _ hX.1 ⟨fun h => absurd h (by omega), fun _ => ok8_pledgeRests (by omega) hX hW hi hj ⟨_, rfl, hX.1, ?_⟩⟩
      cases hr : rsb w i j (w 0 2)
      · rw [hr] at ihj
        exact ⟨fun h => absurd rfl h, fun _ => ⟨r32, ihj⟩⟩
      · rw [hr, if_pos rfl] at ihj
        refine ⟨fun _ => ⟨fun hz => ⟨⟨by omega, by omega⟩, r32, ?_⟩, fun hz => ⟨⟨by omega, by omega⟩, ⟨by omega, by omega⟩, ⟨by omega, by omega⟩, r32, ?_⟩⟩, fun h => absurd h (by decide)⟩
        · rw [if_neg (show ¬ y.1 = 0 by omega)] at ihj; exact ihj
        · rw [if_pos (show y.1 = 0 by omega)] at ihj; exact ihj
theorem ok9_losesBy {i j : Nat} (hX : MIv M w s) (hW : WOk w) (hi : i < w 0 2) (kk : Q (some (vI (lo w i j : Nat))) M) : Ok G mX9_losesBy d 0 0 [vR 96, vI i, vI j] M Q := by
  refine Ok_of rfl (Nat.le_of_ble_eq_true rfl) rfl ?_
  have h9 := (hW.2.2.2.1 i hi).2.2
  have h8 := hW.1.2.2.1
  unfold lo at kk
  refine bX9_losesBy_0 _ _ hX.1 ?_
  rw [Int.toNat_natCast, (hX.2.1.2.2.1 i hi).2]
  refine ⟨fun h => ⟨⟨by omega, by omega⟩, ?_⟩, fun h => ⟨⟨by omega, by omega⟩, ⟨by omega, by omega⟩, ?_⟩⟩
  · rw [if_neg (by omega), Nat.one_mul] at kk; exact kk
  · rw [if_pos (by omega)] at kk; exact kk
theorem ok9_rests {i j : Nat} (hd : 1 ≤ d) (hX : MIv M w s) (hW : WOk w) (hi : i < w 0 2) (hj : j < w 0 2) (kk : Q (some (vI (if rsb w i j (w 0 2) then 1 else 0))) M) : Ok G mX9_rests d 0 0 [vR 96, vI i, vI j] M Q := by
  obtain ⟨d, rfl⟩ : ∃ e, d = e + 1 := ⟨d - 1, by omega⟩
  refine Ok_of rfl (Nat.le_of_ble_eq_true rfl) rfl ?_
  have e2 := hX.2.1.1.2.2.1
  have h8 := hW.1.2.2.1
  refine bX9_rests_0 _ _ hX.1 ?_
  refine down (fun n => Wp G mX9_rests (d + 1) 0 0 5 [some (vR 96), some (vI i), some (vI j), some (vI (if rsb w i j n then 1 else 0)), some (vI (n : Int))] [] M 0 0 Q) (n := w 0 2) ?_ ?_ 0 (Nat.zero_le _)
  · exact bX9_rests_5 _ _ _ _ hX.1 ⟨fun _ => ⟨by split <;> simp, kk⟩, fun h => absurd h (by omega)⟩
  · intro n hn ih
    have en : rsb w i j (n + 1) = (rsb w i j n && decide (lo w i j ≤ lo w n j ∧ lo w i n ≤ lo w i j)) := rfl
    rw [en] at ih
    refine bX9_rests_5 _ _ _ _ hX.1 ⟨fun h => absurd h (by omega), fun _ => ⟨fun hz => ?_, fun hz => ?_⟩⟩
    · have hf : rsb w i j n = false := by
        cases h : rsb w i j n
        · rfl
        · rw [h] at hz; exact absurd hz (by decide)
      rw [hf] at ih
      exact ⟨⟨by omega, by omega⟩, ih⟩
    · have ht : rsb w i j n = true := by
        cases h : rsb w i j n
        · rw [h] at hz; exact absurd rfl hz
        · rfl
      rw [ht, Bool.true_and] at ih
      refine ok9_losesBy hX hW hn ⟨_, rfl, hX.1, ok9_losesBy hX hW hi ⟨_, rfl, hX.1, fun hlt => ⟨⟨by omega, by omega⟩, ?_⟩, fun hge => ok9_losesBy hX hW hi ⟨_, rfl, hX.1, ok9_losesBy hX hW hi ⟨_, rfl, hX.1, ⟨by omega, by omega⟩, ?_⟩⟩⟩⟩
      · rw [decide_eq_false (by omega)] at ih; exact ih
      · by_cases hc : lo w i n ≤ lo w i j
        · rw [decide_eq_true (by omega)] at ih
          rw [if_neg (by omega)]
          exact ih
        · rw [decide_eq_false (by omega)] at ih
          rw [if_pos (by omega)]
          exact ih
theorem ok9_pledge {k : Int} (hd : 3 ≤ d) (hX : MIv M w s) (hP : PIv w s) (kk : Q (some (vI (aPledge w k))) M) : Ok G mX9_pledge d 0 0 [vR 96, vI k] M Q := by
  obtain ⟨d, rfl⟩ : ∃ e, d = e + 1 := ⟨d - 1, by omega⟩
  refine Ok_of rfl (Nat.le_of_ble_eq_true rfl) rfl ?_
  unfold aPledge at kk
  have hW := hP.1
  have e2 := hX.2.1.1.2.2.1
  have h8 := hW.1.2.2.1
  refine bX9_pledge_0 _ hX.1 (ok_in ⟨_, rfl, hX.1, ?_⟩)
  rcases Classical.em (¬ (0 ≤ k ∧ k ≤ 1)) with hc | hc
  · rw [if_neg hc] at kk ⊢
    exact ⟨fun z => absurd rfl z, fun _ => kk⟩
  have hc : 0 ≤ k ∧ k ≤ 1 := by omega
  rw [if_pos hc] at kk ⊢
  refine ⟨fun _ => ?_, fun z => absurd z (by decide)⟩
  refine down (fun i => Wp G mX9_pledge (d + 1) 0 0 20 [some (vR 96), some (vI k), some (vI ((pi2 w i).1 : Nat)), some (vI (pi2 w i).2), some (vI (i : Int)), none, none] [] M 0 0 Q) (n := w 0 2) ?_ ?_ 0 (Nat.zero_le _)
  · exact bX9_pledge_20 _ _ _ _ hX.1 ⟨fun _ => by
      by_cases k0 : k = 0
      · rw [if_pos k0] at kk ⊢; exact kk
      · rw [if_neg k0] at kk ⊢; exact kk, fun h => absurd h (by omega)⟩
  · intro i hi ih
    refine bX9_pledge_20 _ _ _ _ hX.1 ⟨fun h => absurd h (by omega), fun _ => ?_⟩
    have hle := pi2_le hW i
    have ei : pi2 w (i + 1) = pj w i (pi2 w i) (w 0 2) := rfl
    rw [ei] at ih
    generalize pi2 w i = x at *
    refine down (fun j => Wp G mX9_pledge (d + 1) 0 0 32 [some (vR 96), some (vI k), some (vI ((pj w i x j).1 : Nat)), some (vI (pj w i x j).2), some (vI (i : Int)), some (vI (j : Int)), none] [] M 0 0 Q) (n := w 0 2) ?_ ?_ 0 (Nat.zero_le _)
    · exact bX9_pledge_32 _ _ _ _ _ hX.1 ⟨fun _ => ⟨⟨by omega, by omega⟩, ih⟩, fun h => absurd h (by omega)⟩
    · intro j hj ihj
      have hl := pj_le (w := w) (i := i) (x := x) j
      have ej : pj w i x (j + 1) = if rsb w i j (w 0 2) then ((pj w i x j).1 + 1, (if (pj w i x j).1 = 0 then 8 * (i : Int) + (j : Int) else (pj w i x j).2)) else pj w i x j := rfl
      rw [ej] at ihj
      generalize pj w i x j = y at *
      have r32 : R32 ((j : Int) + 1) := ⟨by omega, by omega⟩
      refine bX9_pledge_32 _ _ _ _ _ hX.1 ⟨fun h => absurd h (by omega), fun _ => ok9_rests (by omega) hX hW hi hj ⟨_, rfl, hX.1, ?_⟩⟩
      cases hr : rsb w i j (w 0 2)
      · rw [hr] at ihj
        refine ⟨fun _ => ⟨⟨by omega, by omega⟩, r32, ?_⟩, fun h => absurd rfl h⟩
        rw [Int.add_zero]
        exact ihj
      · rw [hr, if_pos rfl] at ihj
        refine ⟨fun h => absurd h (by decide), fun _ => ⟨fun hz => ⟨⟨by omega, by omega⟩, r32, ?_⟩, fun hz => ⟨⟨by omega, by omega⟩, ⟨by omega, by omega⟩, ⟨by omega, by omega⟩, r32, ?_⟩⟩⟩
        · rw [if_neg (show ¬ y.1 = 0 by omega)] at ihj; exact ihj
        · rw [if_pos (show y.1 = 0 by omega)] at ihj; exact ihj
end PLEDG
