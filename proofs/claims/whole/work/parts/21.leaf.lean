/-! ===== contracts of the small methods; what a State, a memory holds ===== -/
theorem down (P : Nat → Prop) {n : Nat} (hn : P n) (hs : ∀ i, i < n → P (i + 1) → P i) : ∀ i, i ≤ n → P i := by
  intro i hi
  induction h : n - i generalizing i with
  | zero =>
    have : i = n := by omega
    rw [this]
    exact hn
  | succ k ih => exact hs i (by omega) (ih (i + 1) (by omega) (by omega))
/-- only places of which P holds differ, and no reference -/
def Ch (P : Nat → Prop) (M M' : MM) : Prop := M'.1 = M.1 ∧ M'.2.2 = M.2.2 ∧ ∀ q j, ¬ P q → gI M' q j = gI M q j
theorem Ch.rf {P : Nat → Prop} {M : MM} : Ch P M M := ⟨rfl, rfl, fun _ _ _ => rfl⟩
theorem Ch.tr {P : Nat → Prop} {A B C : MM} (h1 : Ch P A B) (h2 : Ch P B C) : Ch P A C := ⟨h2.1.trans h1.1, h2.2.1.trans h1.2.1, fun q j h => (h2.2.2 q j h).trans (h1.2.2 q j h)⟩
theorem Ch.mono {P P' : Nat → Prop} {A B : MM} (h : Ch P A B) (hp : ∀ q, P q → P' q) : Ch P' A B := ⟨h.1, h.2.1, fun q j hq => h.2.2 q j fun z => hq (hp q z)⟩
theorem gI_st (M : MM) (p k : Nat) (x : Int) (q j : Nat) : gI (stI M p k x) q j = if q = p ∧ j = k then x else gI M q j := rfl
theorem gI_same (M : MM) (p k : Nat) (x : Int) : gI (stI M p k x) p k = x := by rw [gI_st, if_pos ⟨rfl, rfl⟩]
theorem gI_ne (M : MM) {p k q j : Nat} (x : Int) (h : ¬ (q = p ∧ j = k)) : gI (stI M p k x) q j = gI M q j := by rw [gI_st, if_neg h]
theorem Ch.st {P : Nat → Prop} {A B : MM} (h : Ch P A B) {p k : Nat} {x : Int} (hp : P p) : Ch P A (stI B p k x) := ⟨h.1, h.2.1, fun q j hq => (gI_ne B (p := p) (k := k) x (fun z => hq (by rw [z.1]; exact hp))).trans (h.2.2 q j hq)⟩
theorem ShX.of {A B : MM} (h : ShX A) (e : B.2.2 = A.2.2) : ShX B := by
  have : ∀ q j, gR B q j = gR A q j := fun q j => by unfold gR; rw [e]
  unfold ShX
  simp only [this]
  exact h
theorem ShM.of {A B : MM} (h : ShM A) (e : B.2.2 = A.2.2) : ShM B := by
  have : ∀ q j, gR B q j = gR A q j := fun q j => by unfold gR; rw [e]
  unfold ShM
  simp only [this]
  exact h
theorem ShX.ch {P : Nat → Prop} {A B : MM} (h : ShX A) (c : Ch P A B) : ShX B := h.of c.2.1
theorem ShM.ch {P : Nat → Prop} {A B : MM} (h : ShM A) (c : Ch P A B) : ShM B := h.of c.2.1
section LEAF
variable {G : GG} {M : MM} {d : Nat} {Q : Option AV → MM → Prop}
-- numbers alone
theorem ok_in {a b c : Int} (k : Q (some (vI (if b ≤ a ∧ a ≤ c then 1 else 0))) M) : Ok G mX9_in d 0 0 [vL a, vL b, vL c] M Q := by
  refine Ok_of rfl (Nat.le_of_ble_eq_true rfl) rfl ?_
  refine bX9_in_0 _ _ _ ⟨fun h => ?_, fun h => ⟨fun h2 => ?_, fun h2 => ?_⟩⟩
  · rwa [if_neg (by omega)] at k
  · rwa [if_neg (by omega)] at k
  · rwa [if_pos (by omega)] at k
theorem ok_has {a k : Nat} (ha : a < 2147483648) (hk : k < 32) (kk : Q (some (vI (if a.testBit k then 1 else 0))) M) : Ok G mX9_has d 0 0 [vI a, vI k] M Q := by
  refine Ok_of rfl (Nat.le_of_ble_eq_true rfl) rfl ?_
  refine bX9_has_0 _ _ ?_
  rw [bit_n ha hk]
  cases hb : a.testBit k
  · rw [hb] at kk
    exact ⟨fun _ => kk, fun h => absurd h (by decide)⟩
  · rw [hb] at kk
    exact ⟨fun h => absurd rfl h, fun _ => kk⟩
theorem ok_bits {a : Nat} (ha : a < 2147483648) (kk : Q (some (vI (pc a 10 : Nat))) M) : Ok G mX9_bits d 0 0 [vI a] M Q := by
  refine Ok_of rfl (Nat.le_of_ble_eq_true rfl) rfl ?_
  refine bX9_bits_0 _ ?_
  refine down (fun i => Wp G mX9_bits d 0 0 4 [some (vI (a : Int)), some (vI (pc a i : Nat)), some (vI (i : Int))] [] M 0 0 Q) (n := 10) ?_ ?_ 0 (by decide)
  · exact bX9_bits_4 _ _ _ ⟨fun _ => kk, fun h => absurd h (by decide)⟩
  · intro i hi ih
    have hp := pc_le (s := a) (n := i)
    have e : iandv (ishrv (a : Int) (i : Int)) 1 = ((if a.testBit i then 1 else 0 : Nat) : Int) := by
      rw [bit_n ha (by omega)]
      split <;> rfl
    have e2 : pc a (i + 1) = pc a i + (if a.testBit i then 1 else 0) := rfl
    refine bX9_bits_4 _ _ _ ⟨fun h => absurd h (by omega), fun _ => ?_⟩
    rw [e]
    refine ⟨?_, ⟨by omega, by omega⟩, ?_⟩
    · constructor <;> split <;> omega
    · rw [e2] at ih
      exact ih
-- letters
theorem ok_signAt {a : Int} (hS : ShX M) (kk : Q (some (vI (if 0 ≤ a ∧ a < gI M 2 1 ∧ a < 200 then gI M 3 a.toNat else -1))) M) : Ok G mX1_signAt d 0 0 [vR 2, vI a] M Q := by
  refine Ok_of rfl (Nat.le_of_ble_eq_true rfl) rfl ?_
  refine bX1_signAt_0 _ hS ⟨fun h => ?_, fun h => ⟨fun h2 => ?_, fun h2 => ⟨fun h3 => ?_, fun h3 => ⟨by omega, ?_⟩⟩⟩⟩
  · rwa [if_neg (by omega)] at kk
  · rwa [if_neg (by omega)] at kk
  · rwa [if_neg (by omega)] at kk
  · rwa [if_pos (by omega)] at kk
theorem ok_size1 (hS : ShX M) (kk : Q (some (vI (gI M 2 1))) M) : Ok G mX1_size d 0 0 [vR 2] M Q := Ok_of rfl (Nat.le_of_ble_eq_true rfl) rfl (bX1_size_0 hS kk)
theorem ok_clear1 (hS : ShX M) (kk : Q none (stI M 2 1 0)) : Ok G mX1_clear d 0 0 [vR 2] M Q := Ok_of rfl (Nat.le_of_ble_eq_true rfl) rfl (bX1_clear_0 hS (fun _ e => by rw [e]; exact kk))
theorem ok_append {a : Int} {n : Nat} (hS : ShX M) (hn : gI M 2 1 = n) (h2 : n ≤ 200) (kf : n = 200 → Q (some (vI 0)) M) (kt : n < 200 → Q (some (vI 1)) (stI (stI M 3 n a) 2 1 ((n + 1 : Nat) : Int))) : Ok G mX1_append d 0 0 [vR 2, vI a] M Q := by
  refine Ok_of rfl (Nat.le_of_ble_eq_true rfl) rfl ?_
  refine bX1_append_0 _ hS ⟨fun h => by omega, fun h => ⟨fun h2 => ⟨by omega, ?_⟩, fun h3 => kf (by omega)⟩⟩
  rintro _ rfl
  have e : gI (stI M 3 (gI M 2 1).toNat a) 2 1 = gI M 2 1 := gI_ne _ _ (by omega)
  rw [e]
  refine ⟨⟨by omega, by omega⟩, ?_⟩
  rintro _ rfl
  have := kt (by omega)
  rw [hn]
  exact this
-- a State
def SV (M : MM) (p : Nat) (s : Nat → Nat → Nat) : Prop := (∀ b, b < 4 → gI M (p + 1) b = s 0 b ∧ gI M (p + 2) b = s 1 b ∧ gI M (p + 3) b = s 2 b) ∧ gI M p 0 = s 3 0
theorem ok_ribbonOf {p : Nat} {a : Int} (hk : kd p = 5) (hS : ShX M) (kk : Q (some (vI (if 0 ≤ a ∧ a < 4 then gI M (p + 1) a.toNat else 0))) M) : Ok G mX5_ribbonOf d 0 0 [vR p, vI a] M Q := by
  refine Ok_of rfl (Nat.le_of_ble_eq_true rfl) rfl ?_
  refine bX5_ribbonOf_0 _ hk _ hS ⟨fun h => ?_, fun h => ⟨fun h2 => ?_, fun h2 => ⟨by omega, ?_⟩⟩⟩
  · rwa [if_neg (by omega)] at kk
  · rwa [if_neg (by omega)] at kk
  · rwa [if_pos (by omega)] at kk
theorem ok_ageOf {p : Nat} {a : Int} (hk : kd p = 5) (hS : ShX M) (kk : Q (some (vI (if 0 ≤ a ∧ a < 4 then gI M (p + 2) a.toNat else 0))) M) : Ok G mX5_ageOf d 0 0 [vR p, vI a] M Q := by
  refine Ok_of rfl (Nat.le_of_ble_eq_true rfl) rfl ?_
  refine bX5_ageOf_0 _ hk _ hS ⟨fun h => ?_, fun h => ⟨fun h2 => ?_, fun h2 => ⟨by omega, ?_⟩⟩⟩
  · rwa [if_neg (by omega)] at kk
  · rwa [if_neg (by omega)] at kk
  · rwa [if_pos (by omega)] at kk
theorem ok_escapesOf {p : Nat} {a : Int} (hk : kd p = 5) (hS : ShX M) (kk : Q (some (vI (if 0 ≤ a ∧ a < 4 then gI M (p + 3) a.toNat else 0))) M) : Ok G mX5_escapesOf d 0 0 [vR p, vI a] M Q := by
  refine Ok_of rfl (Nat.le_of_ble_eq_true rfl) rfl ?_
  refine bX5_escapesOf_0 _ hk _ hS ⟨fun h => ?_, fun h => ⟨fun h2 => ?_, fun h2 => ⟨by omega, ?_⟩⟩⟩
  · rwa [if_neg (by omega)] at kk
  · rwa [if_neg (by omega)] at kk
  · rwa [if_pos (by omega)] at kk
theorem ok_isBound {p : Nat} {a : Int} (hd : 1 ≤ d) (hk : kd p = 5) (hS : ShX M) (kk : Q (some (vI (if (if 0 ≤ a ∧ a < 4 then gI M (p + 1) a.toNat else 0) = 0 then 0 else 1))) M) : Ok G mX5_isBound d 0 0 [vR p, vI a] M Q := by
  obtain ⟨d, rfl⟩ : ∃ e, d = e + 1 := ⟨d - 1, by omega⟩
  refine Ok_of rfl (Nat.le_of_ble_eq_true rfl) rfl ?_
  refine bX5_isBound_0 _ hk _ hS (ok_ribbonOf hk hS ⟨_, rfl, hS, fun h => ?_, fun h => ?_⟩)
  · rwa [if_pos h] at kk
  · rwa [if_neg h] at kk
theorem ok_tie {p : Nat} {a x : Int} (hk : kd p = 5) (hS : ShX M) (h0 : 0 ≤ a) (h4 : a < 4) (kk : Q none (stI (stI M (p + 1) a.toNat x) (p + 2) a.toNat 0)) : Ok G mX5_tie d 0 0 [vR p, vI a, vI x] M Q := by
  refine Ok_of rfl (Nat.le_of_ble_eq_true rfl) rfl ?_
  refine bX5_tie_0 _ hk _ _ hS ⟨fun h => by omega, fun h => ⟨fun h2 => by omega, fun h2 => ⟨by omega, ?_⟩⟩⟩
  rintro _ rfl _ rfl
  exact kk
theorem ok_untie {p : Nat} {a : Int} (hd : 1 ≤ d) (hk : kd p = 5) (hS : ShX M) (h0 : 0 ≤ a) (h4 : a < 4) (kk : Q none (stI (stI M (p + 1) a.toNat 0) (p + 2) a.toNat 0)) : Ok G mX5_untie d 0 0 [vR p, vI a] M Q := by
  obtain ⟨d, rfl⟩ : ∃ e, d = e + 1 := ⟨d - 1, by omega⟩
  refine Ok_of rfl (Nat.le_of_ble_eq_true rfl) rfl ?_
  exact bX5_untie_0 _ hk _ hS (ok_tie hk hS h0 h4 ⟨rfl, hS, kk⟩)
def goneS (s : Nat → Nat → Nat) : Nat := om (s 0) 4
def foundS (s : Nat → Nat → Nat) (late : Nat) : Nat := om (fun b => if s 1 b < 2 then nd (s 0 b) late else s 0 b) 4
/-- the first beast of the four in whose ribbon t is -/
def whoS (s : Nat → Nat → Nat) (t : Nat) : Int := if (s 0 0).testBit t then 0 else if (s 0 1).testBit t then 1 else if (s 0 2).testBit t then 2 else if (s 0 3).testBit t then 3 else -4
def SB (s : Nat → Nat → Nat) : Prop := (∀ b, b < 4 → s 0 b < 1024 ∧ s 1 b ≤ s 3 0 ∧ s 2 b ≤ s 3 0) ∧ s 3 0 ≤ 2000
theorem goneS_lt {s : Nat → Nat → Nat} (h : SB s) : goneS s < 1024 := om_lt (k := 10) fun i hi => (h.1 i hi).1
theorem foundS_lt {s : Nat → Nat → Nat} {late : Nat} (h : SB s) : foundS s late < 1024 := om_lt (k := 10) fun i hi => by
  show (if s 1 i < 2 then nd (s 0 i) late else s 0 i) < 2 ^ 10
  have := (h.1 i hi).1
  split
  · exact nd_lt this
  · exact this
theorem om_pre {f : Nat → Nat} {k n : Nat} (h : ∀ i, i < n → f i < 2 ^ k) {m : Nat} (hm : m ≤ n) : om f m < 2 ^ k := om_lt fun i hi => h i (by omega)
theorem ok_gone {p : Nat} {s : Nat → Nat → Nat} (hk : kd p = 5) (hS : ShX M) (hV : SV M p s) (hB : SB s) (kk : Q (some (vI (goneS s))) M) : Ok G mX5_gone d 0 0 [vR p] M Q := by
  refine Ok_of rfl (Nat.le_of_ble_eq_true rfl) rfl ?_
  refine bX5_gone_0 _ hk hS ?_
  refine down (fun i => Wp G mX5_gone d 0 0 4 [some (vR p), some (vI (om (s 0) i : Nat)), some (vI (i : Int))] [] M 0 0 Q) (n := 4) ?_ ?_ 0 (by decide)
  · exact bX5_gone_4 _ hk _ _ hS ⟨fun _ => kk, fun h => absurd h (by decide)⟩
  · intro i hi ih
    have h1 := om_pre (f := s 0) (k := 10) (n := 4) (fun i hi => (hB.1 i hi).1) (m := i) (by omega)
    have h2 := (hB.1 i hi).1
    refine bX5_gone_4 _ hk _ _ hS ⟨fun h => absurd h (by omega), fun _ => ⟨by omega, ⟨by omega, by omega⟩, ?_⟩⟩
    rw [Int.toNat_natCast, (hV.1 i hi).1, ior_n (by omega) (by omega)]
    exact ih
theorem ok_found {p late : Nat} {s : Nat → Nat → Nat} (hk : kd p = 5) (hS : ShX M) (hV : SV M p s) (hB : SB s) (kk : Q (some (vI (foundS s late : Nat))) M) : Ok G mX5_found d 0 0 [vR p, vI late] M Q := by
  refine Ok_of rfl (Nat.le_of_ble_eq_true rfl) rfl ?_
  refine bX5_found_0 _ hk _ hS ?_
  refine down (fun i => Wp G mX5_found d 0 0 4 [some (vR p), some (vI late), some (vI (om (fun b => if s 1 b < 2 then nd (s 0 b) late else s 0 b) i : Nat)), some (vI (i : Int)), none] [] M 0 0 Q) (n := 4) ?_ ?_ 0 (by decide)
  · exact bX5_found_4 _ hk _ _ _ hS ⟨fun _ => kk, fun h => absurd h (by decide)⟩
  · intro i hi ih
    have h1 := om_pre (f := fun b => if s 1 b < 2 then nd (s 0 b) late else s 0 b) (k := 10) (n := 4) (fun i hi => by
      have := (hB.1 i hi).1
      show (if s 1 i < 2 then nd (s 0 i) late else s 0 i) < 2 ^ 10
      split
      · exact nd_lt this
      · exact this) (m := i) (by omega)
    have h2 := (hB.1 i hi).1
    have h3 : nd (s 0 i) late < 1024 := nd_lt (k := 10) h2
    have e : om (fun b => if s 1 b < 2 then nd (s 0 b) late else s 0 b) (i + 1) = om (fun b => if s 1 b < 2 then nd (s 0 b) late else s 0 b) i ||| (if s 1 i < 2 then nd (s 0 i) late else s 0 i) := rfl
    rw [e] at ih
    refine bX5_found_4 _ hk _ _ _ hS ⟨fun h => absurd h (by omega), fun _ => ⟨by omega, fun h => ⟨⟨by omega, by omega⟩, ?_⟩, fun h => ⟨⟨by omega, by omega⟩, ?_⟩⟩⟩
    · rw [Int.toNat_natCast, (hV.1 i hi).2.1] at h
      have : ¬ s 1 i < 2 := fun z => by rw [if_neg (by omega)] at h; cases h
      rw [if_neg this] at ih
      rw [Int.toNat_natCast, (hV.1 i hi).1, ior_n (by omega) (by omega)]
      exact ih
    · rw [Int.toNat_natCast, (hV.1 i hi).2.1] at h
      have : s 1 i < 2 := by
        rcases Nat.lt_or_ge (s 1 i) 2 with z | z
        · exact z
        · rw [if_pos (by omega)] at h
          exact absurd rfl h
      rw [if_pos this] at ih
      rw [Int.toNat_natCast, (hV.1 i hi).1, ind_n (by omega), ior_n (by omega) (by omega)]
      exact ih
theorem ok_beastWith {p t : Nat} {s : Nat → Nat → Nat} (hk : kd p = 5) (hS : ShX M) (hV : SV M p s) (hB : SB s) (ht : t < 32) (kk : Q (some (vI (whoS s t))) M) : Ok G mX5_beastWith d 0 0 [vR p, vI t] M Q := by
  refine Ok_of rfl (Nat.le_of_ble_eq_true rfl) rfl ?_
  refine bX5_beastWith_0 _ hk _ hS ?_
  have e : ∀ i, i < 4 → (iandv (ishrv (gI M (p + 1) i) t) 1 = 1 ↔ (s 0 i).testBit t = true) := fun i hi => by
    rw [(hV.1 i hi).1]
    exact bit_1 (by have := (hB.1 i hi).1; omega) ht
  have e0 := e 0 (by decide)
  have e1 := e 1 (by decide)
  have e2 := e 2 (by decide)
  have e3 := e 3 (by decide)
  unfold whoS at kk
  refine bX5_beastWith_2 _ hk _ _ hS ⟨fun h => absurd h (by decide), fun _ => ⟨by decide, fun h => ⟨⟨by decide, by decide⟩, ?_⟩, fun h => ?_⟩⟩
  · rw [if_neg (fun z => h (e0.mpr z))] at kk
    refine bX5_beastWith_2 _ hk _ _ hS ⟨fun h => absurd h (by decide), fun _ => ⟨by decide, fun h => ⟨⟨by decide, by decide⟩, ?_⟩, fun h => ?_⟩⟩
    · rw [if_neg (fun z => h (e1.mpr z))] at kk
      refine bX5_beastWith_2 _ hk _ _ hS ⟨fun h => absurd h (by decide), fun _ => ⟨by decide, fun h => ⟨⟨by decide, by decide⟩, ?_⟩, fun h => ?_⟩⟩
      · rw [if_neg (fun z => h (e2.mpr z))] at kk
        refine bX5_beastWith_2 _ hk _ _ hS ⟨fun h => absurd h (by decide), fun _ => ⟨by decide, fun h => ⟨⟨by decide, by decide⟩, ?_⟩, fun h => ?_⟩⟩
        · rw [if_neg (fun z => h (e3.mpr z))] at kk
          exact bX5_beastWith_2 _ hk _ _ hS ⟨fun _ => kk, fun h => absurd h (by decide)⟩
        · rwa [if_pos (e3.mp h)] at kk
      · rwa [if_pos (e2.mp h)] at kk
    · rwa [if_pos (e1.mp h)] at kk
  · rwa [if_pos (e0.mp h)] at kk
/-- the four places of a State -/
def Pst (p : Nat) : Nat → Prop := fun q => q = p ∨ q = p + 1 ∨ q = p + 2 ∨ q = p + 3
theorem ok_clear5 {p : Nat} (hk : kd p = 5) (hS : ShX M) (kk : ∀ M', Ch (Pst p) M M' → SV M' p (fun _ _ => 0) → Q none M') : Ok G mX5_clear d 0 0 [vR p] M Q := by
  refine Ok_of rfl (Nat.le_of_ble_eq_true rfl) rfl ?_
  refine bX5_clear_0 _ hk hS ?_
  rintro _ rfl
  refine down (fun i => ∀ M', Ch (Pst p) M M' → gI M' p 0 = 0 → (∀ b, b < i → gI M' (p + 1) b = 0 ∧ gI M' (p + 2) b = 0 ∧ gI M' (p + 3) b = 0) → Wp G mX5_clear d 0 0 7 [some (vR p), some (vI (i : Int))] [] M' 0 0 Q) (n := 4) ?_ ?_ 0 (by decide) _ (Ch.rf.st (Or.inl rfl)) (gI_same _ _ _ _) (fun b hb => absurd hb (Nat.not_lt_zero b))
  · intro M' hc h0 hb
    exact bX5_clear_7 _ hk _ (hS.ch hc) ⟨fun _ => kk M' hc ⟨hb, h0⟩, fun h => absurd h (by decide)⟩
  · intro i hi ih M' hc h0 hb
    refine bX5_clear_7 _ hk _ (hS.ch hc) ⟨fun h => absurd h (by omega), fun _ => ⟨by omega, ?_⟩⟩
    rintro _ rfl _ rfl _ rfl
    rw [Int.toNat_natCast]
    refine ⟨⟨by omega, by omega⟩, ih _ (((hc.st (Or.inr (Or.inl rfl))).st (Or.inr (Or.inr (Or.inl rfl)))).st (Or.inr (Or.inr (Or.inr rfl)))) ?_ ?_⟩
    · rw [gI_ne _ _ (by omega), gI_ne _ _ (by omega), gI_ne _ _ (by omega)]
      exact h0
    · intro b hbi
      simp only [gI_st]
      by_cases e : b = i
      · subst e
        simp
      · have := hb b (by omega)
        simp [e, this]
theorem ok_copyFrom {p q : Nat} {s : Nat → Nat → Nat} (hk : kd p = 5) (hk2 : kd q = 5) (hS : ShX M) (hne : p ≠ q) (hV : SV M q s) (kk : ∀ M', Ch (Pst p) M M' → SV M' p s → Q none M') : Ok G mX5_copyFrom d 0 0 [vR p, vR q] M Q := by
  have hap : q + 4 ≤ p ∨ p + 4 ≤ q := by
    have h1 := (kd_in (p := p) (by omega)).2
    have h2 := (kd_in (p := q) (by omega)).2
    rcases Nat.lt_or_ge q p with z | z
    · left
      have := (by decide +kernel : ∀ p, p < 111 → ∀ q, q < p → kd p = 5 → kd q = 5 → q + 4 ≤ p) p (by omega) q z hk hk2
      exact this
    · right
      exact (by decide +kernel : ∀ p, p < 111 → ∀ q, q < p → kd p = 5 → kd q = 5 → q + 4 ≤ p) q (by omega) p (by omega) hk2 hk
  have hq : ∀ M', Ch (Pst p) M M' → SV M' q s := fun M' hc => by
    refine ⟨fun b hb => ?_, ?_⟩
    · rw [hc.2.2 (q + 1) b (by unfold Pst; omega), hc.2.2 (q + 2) b (by unfold Pst; omega), hc.2.2 (q + 3) b (by unfold Pst; omega)]
      exact hV.1 b hb
    · rw [hc.2.2 q 0 (by unfold Pst; omega)]
      exact hV.2
  refine Ok_of rfl (Nat.le_of_ble_eq_true rfl) rfl ?_
  refine bX5_copyFrom_0 _ hk _ hk2 hS ?_
  rintro _ rfl
  refine down (fun i => ∀ M', Ch (Pst p) M M' → gI M' p 0 = s 3 0 → (∀ b, b < i → gI M' (p + 1) b = s 0 b ∧ gI M' (p + 2) b = s 1 b ∧ gI M' (p + 3) b = s 2 b) → Wp G mX5_copyFrom d 0 0 10 [some (vR p), some (vR q), some (vI (i : Int))] [] M' 0 0 Q) (n := 4) ?_ ?_ 0 (by decide) _ (Ch.rf.st (Or.inl rfl)) ((gI_same _ _ _ _).trans hV.2) (fun b hb => absurd hb (Nat.not_lt_zero b))
  · intro M' hc h0 hb
    exact bX5_copyFrom_10 _ hk _ hk2 _ (hS.ch hc) ⟨fun _ => kk M' hc ⟨hb, h0⟩, fun h => absurd h (by decide)⟩
  · intro i hi ih M' hc h0 hb
    refine bX5_copyFrom_10 _ hk _ hk2 _ (hS.ch hc) ⟨fun h => absurd h (by omega), fun _ => ⟨by omega, ?_⟩⟩
    obtain ⟨v1, v2, v3⟩ := (hq M' hc).1 i hi
    rintro _ rfl _ rfl _ rfl
    rw [Int.toNat_natCast]
    have c1 := hc.st (p := p + 1) (k := i) (x := gI M' (q + 1) i) (Or.inr (Or.inl rfl))
    have c2 := c1.st (p := p + 2) (k := i) (x := gI (stI M' (p + 1) i (gI M' (q + 1) i)) (q + 2) i) (Or.inr (Or.inr (Or.inl rfl)))
    refine ⟨⟨by omega, by omega⟩, ih _ (c2.st (Or.inr (Or.inr (Or.inr rfl)))) ?_ ?_⟩
    · rw [gI_ne _ _ (by omega), gI_ne _ _ (by omega), gI_ne _ _ (by omega)]
      exact h0
    · intro b hbi
      rw [((hq _ c2).1 i hi).2.2, ((hq _ c1).1 i hi).2.1, v1]
      simp only [gI_st]
      by_cases e : b = i
      · subst e
        simp
      · have := hb b (by omega)
        simp [e, this]
end LEAF
