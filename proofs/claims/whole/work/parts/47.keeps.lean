/-! ===== what a State keeps true; loosen, days, undo, keep, restore of the class ===== -/
theorem day_0 {w s : WT} {b : Nat} (h : s 0 b = 0) : dayS w s 0 b = s 0 b ∧ dayS w s 1 b = s 1 b ∧ dayS w s 2 b = s 2 b := by simp [dayS, h]
theorem day_n {w s : WT} {b : Nat} (h : s 0 b ≠ 0) (h1 : s 1 b + 1 ≠ 3) : dayS w s 0 b = s 0 b ∧ dayS w s 1 b = s 1 b + 1 ∧ dayS w s 2 b = s 2 b := by simp [dayS, h, h1]
theorem day_f {w s : WT} {b : Nat} (h : s 0 b ≠ 0) (h1 : s 1 b + 1 = 3) (h2 : str w (nd (s 0 b) (km w 2)) < w 7 b) : dayS w s 0 b = 0 ∧ dayS w s 1 b = 0 ∧ dayS w s 2 b = s 2 b + 1 := by simp [dayS, h, h1, h2]
theorem day_l {w s : WT} {b : Nat} (h : s 0 b ≠ 0) (h1 : s 1 b + 1 = 3) (h2 : ¬ str w (nd (s 0 b) (km w 2)) < w 7 b) : dayS w s 0 b = nd (s 0 b) (km w 2) ∧ dayS w s 1 b = 3 ∧ dayS w s 2 b = s 2 b := by simp [dayS, h, h1, h2]
theorem day_sub {w s : WT} {b : Nat} : sub (dayS w s 0 b) (s 0 b) := by
  by_cases h : s 0 b = 0
  · rw [(day_0 h).1]; exact sub_rf
  · by_cases h1 : s 1 b + 1 = 3
    · by_cases h2 : str w (nd (s 0 b) (km w 2)) < w 7 b
      · rw [(day_f h h1 h2).1]; intro i hi; rw [Nat.zero_testBit] at hi; cases hi
      · rw [(day_l h h1 h2).1]; exact nd_sub
    · rw [(day_n h h1).1]; exact sub_rf
theorem dis_sub {a b c d : Nat} (h : sub a c) (h2 : sub b d) (h3 : c &&& d = 0) : a &&& b = 0 := by
  apply Nat.eq_of_testBit_eq
  intro i
  rw [Nat.testBit_and, Nat.zero_testBit]
  cases ha : a.testBit i
  · rfl
  · cases hb : b.testBit i
    · rfl
    · have e := congrArg (fun z : Nat => z.testBit i) h3
      simp only [Nat.testBit_and, Nat.zero_testBit, h i ha, h2 i hb] at e
      cases e
theorem SI.day {w s : WT} (h : SI w s) (hW : WOk w) : SI w (dayS w s) := by
  have e3 : dayS w s 3 0 = s 3 0 + 1 := rfl
  refine ⟨fun b hb => ?_, fun a b ha hb hab => dis_sub day_sub day_sub (h.2 a b ha hb hab)⟩
  obtain ⟨a1, a2, a3, a4, a5, a6⟩ := h.1 b hb
  rw [e3]
  by_cases h0 : s 0 b = 0
  · obtain ⟨d0, d1, d2⟩ := day_0 (w := w) h0
    rw [d0, d1, d2]
    exact ⟨a1, a2, a3, a4, by omega, by omega⟩
  · have hbw : b < w 0 3 := by
      rcases Nat.lt_or_ge b (w 0 3) with q | q
      · exact q
      · exact absurd (a2 q) h0
    have hp1 := (hW.2.2.2.2.1 b hbw).1
    by_cases h1 : s 1 b + 1 = 3
    · by_cases h2 : str w (nd (s 0 b) (km w 2)) < w 7 b
      · obtain ⟨d0, d1, d2⟩ := day_f h0 h1 h2
        rw [d0, d1, d2]
        exact ⟨Nat.two_pow_pos _, fun _ => rfl, fun _ => rfl, fun z => absurd rfl z, by omega, by omega⟩
      · obtain ⟨d0, d1, d2⟩ := day_l h0 h1 h2
        rw [d0, d1, d2]
        refine ⟨nd_lt a1, fun z => absurd (a2 z) h0, fun z => ?_, fun _ => by omega, by omega, by omega⟩
        rw [z, str_0] at h2
        omega
    · obtain ⟨d0, d1, d2⟩ := day_n (w := w) h0 h1
      rw [d0, d1, d2]
      exact ⟨a1, a2, fun z => absurd z h0, a4, by omega, by omega⟩
theorem SI.loose {w s : WT} {b : Nat} (h : SI w s) : SI w (bindS s b 0) := by
  have e3 : bindS s b 0 3 0 = s 3 0 := by simp [bindS]
  have hs : ∀ c, sub (bindS s b 0 0 c) (s 0 c) := fun c => by
    by_cases e : c = b
    · intro i hi
      simp [bindS, e] at hi
    · simp only [bindS, e]
      simp only [and_false, if_false]
      exact sub_rf
  refine ⟨fun c hc => ?_, fun a c ha hc hac => dis_sub (hs a) (hs c) (h.2 a c ha hc hac)⟩
  obtain ⟨a1, a2, a3, a4, a5, a6⟩ := h.1 c hc
  rw [e3]
  by_cases e : c = b
  · have x0 : bindS s b 0 0 c = 0 := by simp [bindS, e]
    have x1 : bindS s b 0 1 c = 0 := by simp [bindS, e]
    have x2 : bindS s b 0 2 c = s 2 c := by simp [bindS]
    rw [x0, x1, x2]
    exact ⟨Nat.two_pow_pos _, fun _ => rfl, fun _ => rfl, fun z => absurd rfl z, Nat.zero_le _, a6⟩
  · have x0 : bindS s b 0 0 c = s 0 c := by simp [bindS, e]
    have x1 : bindS s b 0 1 c = s 1 c := by simp [bindS, e]
    have x2 : bindS s b 0 2 c = s 2 c := by simp [bindS]
    rw [x0, x1, x2]
    exact ⟨a1, a2, a3, a4, a5, a6⟩
theorem SI.bindI {w s : WT} {b r : Nat} (h : SI w s) (hW : WOk w) (hb : b < w 0 3) (hr : r < 2 ^ w 0 0) (ht : sub r (thr w (goneS s))) (hp : w 7 b ≤ str w r) (h0 : s 0 b = 0) : SI w (bindS s b r) := by
  have h4 := hW.1.2.2.2.1
  have e3 : bindS s b r 3 0 = s 3 0 := by simp [bindS]
  have hp1 := (hW.2.2.2.2.1 b hb).1
  have hr0 : r ≠ 0 := fun z => by rw [z, str_0] at hp; omega
  have hdis : ∀ c, c < 4 → c ≠ b → r &&& s 0 c = 0 := fun c hc hcb => by
    apply Nat.eq_of_testBit_eq
    intro i
    rw [Nat.testBit_and, Nat.zero_testBit]
    cases hri : r.testBit i
    · rfl
    · cases hsi : (s 0 c).testBit i
      · rfl
      · have hg : (goneS s).testBit i = true := by
          unfold goneS
          exact om_bit.mpr ⟨c, hc, hsi⟩
        have h1 := ht i hri
        unfold thr at h1
        rw [nd_bit, fol_sub i hg, Bool.not_true, Bool.and_false] at h1
        cases h1
  refine ⟨fun c hc => ?_, fun a c ha hc hac => ?_⟩
  · obtain ⟨a1, a2, a3, a4, a5, a6⟩ := h.1 c hc
    rw [e3]
    by_cases e : c = b
    · have x0 : bindS s b r 0 c = r := by simp [bindS, e]
      have x1 : bindS s b r 1 c = 0 := by simp [bindS, e]
      have x2 : bindS s b r 2 c = s 2 c := by simp [bindS]
      rw [x0, x1, x2]
      exact ⟨hr, fun z => by omega, fun z => absurd z hr0, fun _ => by rw [e]; exact hp, Nat.zero_le _, a6⟩
    · have x0 : bindS s b r 0 c = s 0 c := by simp [bindS, e]
      have x1 : bindS s b r 1 c = s 1 c := by simp [bindS, e]
      have x2 : bindS s b r 2 c = s 2 c := by simp [bindS]
      rw [x0, x1, x2]
      exact ⟨a1, a2, a3, a4, a5, a6⟩
  · have x : ∀ c, bindS s b r 0 c = if c = b then r else s 0 c := fun c => by simp [bindS]
    rw [x, x]
    by_cases ea : a = b
    · rw [if_pos ea, if_neg (by omega)]
      exact hdis c hc (by omega)
    · rw [if_neg ea]
      by_cases ec : c = b
      · rw [if_pos ec, Nat.and_comm]
        exact hdis a ha ea
      · rw [if_neg ec]
        exact h.2 a c ha hc hac
