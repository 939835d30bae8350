/-! ===== the cheapest ribbon: by cost, then by fewer things, then the lowest ===== -/
def cst (w : WT) (g s : Nat) : Int := (los w (g ||| s) : Nat) - (los w g : Nat)
def bet (w : WT) (g a b : Nat) : Prop := cst w g a < cst w g b ∨ (cst w g a = cst w g b ∧ pc a 10 < pc b 10)
abbrev betD (w : WT) (g a b : Nat) : Prop := cst w g a < cst w g b ∨ (cst w g a = cst w g b ∧ pc a 10 < pc b 10)
def bst (w : WT) (g : Nat) (p : Nat → Bool) : Nat → Option Nat
  | 0 => none
  | n + 1 => if p n then (match bst w g p n with
    | none => some n
    | some b => if betD w g n b then some n else some b) else bst w g p n
section BST
variable {w : WT} {g : Nat} {p : Nat → Bool} {n b : Nat}
theorem bst_no (h : p n = false) : bst w g p (n + 1) = bst w g p n := by
  show (if p n then _ else _) = _
  rw [h]; rfl
theorem bst_first (h : p n = true) (h2 : bst w g p n = none) : bst w g p (n + 1) = some n := by
  show (if p n then (match bst w g p n with
    | none => some n
    | some b => if betD w g n b then some n else some b) else bst w g p n) = _
  rw [h, h2]; rfl
theorem bst_new (h : p n = true) (h2 : bst w g p n = some b) (h3 : bet w g n b) : bst w g p (n + 1) = some n := by
  show (if p n then (match bst w g p n with
    | none => some n
    | some b => if betD w g n b then some n else some b) else bst w g p n) = _
  rw [h, h2]
  exact if_pos h3
theorem bst_old (h : p n = true) (h2 : bst w g p n = some b) (h3 : ¬ bet w g n b) : bst w g p (n + 1) = some b := by
  show (if p n then (match bst w g p n with
    | none => some n
    | some b => if betD w g n b then some n else some b) else bst w g p n) = _
  rw [h, h2]
  exact if_neg h3
theorem bst_in : ∀ {n r : Nat}, bst w g p n = some r → r < n ∧ p r = true := by
  intro n
  induction n with
  | zero => intro r h; cases h
  | succ n ih =>
    intro r h
    cases hp : p n
    · rw [bst_no hp] at h
      exact ⟨by have := (ih h).1; omega, (ih h).2⟩
    · cases hb : bst w g p n with
      | none =>
        rw [bst_first hp hb] at h
        cases h
        exact ⟨by omega, hp⟩
      | some b =>
        by_cases hq : bet w g n b
        · rw [bst_new hp hb hq] at h
          cases h
          exact ⟨by omega, hp⟩
        · rw [bst_old hp hb hq] at h
          cases h
          exact ⟨by have := (ih hb).1; omega, (ih hb).2⟩
theorem bst_cong {q : Nat → Bool} : ∀ {n : Nat}, (∀ i, i < n → p i = q i) → bst w g p n = bst w g q n := by
  intro n
  induction n with
  | zero => intro _; rfl
  | succ n ih =>
    intro h
    show (if p n then _ else _) = (if q n then _ else _)
    rw [h n (by omega), ih (fun i hi => h i (by omega))]
end BST
def lsP (w : WT) (g pull n : Nat) : Bool := decide (n ≠ 0) && decide (nd n (thr w g) = 0) && decide (pull ≤ str w n)
theorem lsP_t {w : WT} {g pull n : Nat} : lsP w g pull n = true ↔ n ≠ 0 ∧ nd n (thr w g) = 0 ∧ pull ≤ str w n := by
  unfold lsP
  simp [and_assoc]
theorem lsP_f {w : WT} {g pull n : Nat} (h : ¬ (n ≠ 0 ∧ nd n (thr w g) = 0 ∧ pull ≤ str w n)) : lsP w g pull n = false := by
  cases e : lsP w g pull n
  · rfl
  · exact absurd (lsP_t.mp e) h
section LEAST
variable {G : GG} {M : MM} {d : Nat} {Q : Option AV → MM → Prop}
theorem ok_isBetter {x y : Int} {s t : Nat} (hd : 1 ≤ d) (hs : s < 1024) (ht : t < 1024) (kt : (x < y ∨ (x = y ∧ pc s 10 < pc t 10)) → Q (some (vI 1)) M) (kf : ¬ (x < y ∨ (x = y ∧ pc s 10 < pc t 10)) → Q (some (vI 0)) M) : Ok G mX3_isBetter d 0 0 [vI x, vI s, vI y, vI t] M Q := by
  obtain ⟨d, rfl⟩ : ∃ e, d = e + 1 := ⟨d - 1, by omega⟩
  refine Ok_of rfl (Nat.le_of_ble_eq_true rfl) rfl ?_
  refine bX3_isBetter_0 _ _ _ _ ⟨fun h => ok_bitCount hs ⟨_, rfl, ok_bitCount ht ⟨_, rfl, fun h2 => kf ?_, fun h2 => kt ?_⟩⟩, fun h => ⟨fun h2 => kf ?_, fun h2 => kt ?_⟩⟩ <;> omega
/-- what the search holds after the sets below i -/
def LsS (w : WT) (g : Nat) (p : Nat → Bool) (i : Nat) (a c r : Int) : Prop := (bst w g p i = none ∧ a = 0) ∨ ∃ b, bst w g p i = some b ∧ a = 1 ∧ c = cst w g b ∧ r = (b : Int)
theorem ok_findLeast {pull g : Nat} {w : WT} (hd : 2 ≤ d) (hS : ShX M) (hT : TB M w) (hW : WOk w) (hg : g < 2 ^ w 0 0)
    (k0 : ∀ M', Ch (fun q => q = 87) M M' → bst w g (lsP w g pull) (2 ^ w 0 0) = none → Q (some (vI 0)) M')
    (k1 : ∀ M' r, Ch (fun q => q = 87) M M' → bst w g (lsP w g pull) (2 ^ w 0 0) = some r → gI M' 87 0 = (r : Nat) → gI M' 87 1 = cst w g r → Q (some (vI 1)) M') : Ok G mX3_findLeast d 0 0 [vR 87, vI pull, vI g] M Q := by
  obtain ⟨d, rfl⟩ : ∃ e, d = e + 1 := ⟨d - 1, by omega⟩
  refine Ok_of rfl (Nat.le_of_ble_eq_true rfl) rfl ?_
  refine bX3_findLeast_0 _ _ hS (ok_thereBesides (by omega) hS hT hW hg ⟨_, rfl, hS, ?_⟩)
  have hpw := pow_le hW
  have h1p : 1 ≤ 2 ^ w 0 0 := Nat.two_pow_pos _
  have p0 : lsP w g pull 0 = false := lsP_f (by simp)
  refine down (fun i => ∀ M' a, Ch (fun q => q = 87) M M' → LsS w g (lsP w g pull) i a (gI M' 87 1) (gI M' 87 0) → 1 ≤ i → Wp G mX3_findLeast (d + 1) 0 0 15 [some (vR 87), some (vI pull), some (vI g), some (vI (thr w g : Nat)), some (vI a), some (vI (i : Int)), none] [] M' 0 0 Q) (n := 2 ^ w 0 0) ?_ ?_ 1 h1p M 0 Ch.rf (Or.inl ⟨bst_no p0, rfl⟩) (Nat.le_refl 1)
  · intro M' a hc hL _
    have hT' : TB M' w := hT.of fun q hq j => hc.2.2 q j (by unfold Ptb at hq; omega)
    refine bX3_findLeast_15 _ _ _ _ _ (hS.ch hc) ⟨fun _ => ?_, fun h => absurd (by rw [hT'.1]; exact Int.le_refl _) h⟩
    rcases hL with ⟨e, e1⟩ | ⟨b, e, e1, e2, e3⟩
    · rw [e1]; exact ⟨Or.inl rfl, k0 M' hc e⟩
    · rw [e1]; exact ⟨Or.inr rfl, k1 M' b hc e e3 e2⟩
  · intro i hi ih M' a hc hL h1i
    have hT' : TB M' w := hT.of fun q hq j => hc.2.2 q j (by unfold Ptb at hq; omega)
    have hS' := hS.ch hc
    refine bX3_findLeast_15 _ _ _ _ _ hS' ⟨fun h => absurd h (by rw [hT'.1]; omega), fun _ => ?_⟩
    rw [ind_n (by omega)]
    have r32 : R32 ((i : Int) + 1) := ⟨by omega, by omega⟩
    have hi0 : i ≠ 0 := by omega
    refine ⟨fun h => ⟨r32, ih M' a hc ?_ (by omega)⟩, fun h => ok_strengthOf hS' hT' hW hi ⟨_, rfl, hS', fun h2 => ok_costOf (by omega) hS' hT' hW hi hg ⟨_, rfl, hS', ?_⟩, fun h2 => ⟨r32, ih M' a hc ?_ (by omega)⟩⟩⟩
    · unfold LsS
      rw [bst_no (lsP_f fun z => h (by rw [z.2.1]; rfl))]
      exact hL
    · have hp : lsP w g pull i = true := lsP_t.mpr ⟨hi0, by omega, by omega⟩
      refine ⟨fun ha => ?_, fun ha => ?_⟩
      · rintro _ rfl _ rfl
        refine ⟨r32, ih _ 1 ((hc.st rfl).st rfl) (Or.inr ⟨i, ?_, rfl, ?_, ?_⟩) (by omega)⟩
        · rcases hL with ⟨e, e1⟩ | ⟨b, e, e1, e2, e3⟩
          · exact bst_first hp e
          · omega
        · rw [gI_ne _ _ (by omega), gI_same]; rfl
        · rw [gI_same]
      · rcases hL with ⟨e, e1⟩ | ⟨b, e, e1, e2, e3⟩
        · exact absurd e1 ha
        · rw [e3, e2]
          have hb := (bst_in e).1
          refine ok_isBetter (by omega) (by omega) (by omega) (fun hbt => ⟨_, rfl, hS', fun z => absurd z (by decide), fun _ => ?_⟩) (fun hbt => ⟨_, rfl, hS', fun _ => ⟨r32, ih M' a hc (Or.inr ⟨b, bst_old hp e hbt, e1, e2, e3⟩) (by omega)⟩, fun z => absurd rfl z⟩)
          rintro _ rfl _ rfl
          refine ⟨r32, ih _ 1 ((hc.st rfl).st rfl) (Or.inr ⟨i, bst_new hp e hbt, rfl, ?_, ?_⟩) (by omega)⟩
          · rw [gI_ne _ _ (by omega), gI_same]; rfl
          · rw [gI_same]
    · unfold LsS
      rw [bst_no (lsP_f fun z => h2 (by omega))]
      exact hL
theorem ok9_leastIn {base pull : Nat} {w s : WT} (hd : 3 ≤ d) (hS : ShM M) (hw : MW M w) (hW : WOk w) (hI : SI w s) (hR : RV M base s) (hb : base ≤ 143)
    (kk : Q (some (vI (match bst w (goneS s) (lsP w (goneS s) pull) (2 ^ w 0 0) with
      | none => -4
      | some r => ((r : Nat) : Int)))) M) : Ok G mX9_leastIn d 0 0 [vR 96, vI base, vI pull] M Q := by
  obtain ⟨d, rfl⟩ : ∃ e, d = e + 1 := ⟨d - 1, by omega⟩
  refine Ok_of rfl (Nat.le_of_ble_eq_true rfl) rfl ?_
  refine bX9_leastIn_0 _ _ hS (ok9_thereIn (by omega) hS hw hW hI hR hb ⟨_, rfl, hS, ?_⟩)
  have hpw := pow_le hW
  have h1p : 1 ≤ 2 ^ w 0 0 := Nat.two_pow_pos _
  have hgl := goneS_lt' hI
  generalize hgg : goneS s = g at *
  have p0 : lsP w g pull 0 = false := lsP_f (by simp)
  have e0 := hw.1.1
  have esz : ishlv 1 (gI M 96 5) = ((2 ^ w 0 0 : Nat) : Int) := by rw [e0]; exact ishl_1 (by have := hW.1.1; omega)
  refine down (fun i => ∀ a c r : Int, LsS w g (lsP w g pull) i a c r → (a = 0 → r = -4) → 1 ≤ i → Wp G mX9_leastIn (d + 1) 0 0 16 [some (vR 96), some (vI base), some (vI pull), some (vI (thr w g : Nat)), some (vI r), some (vI c), some (vI (i : Int)), none, none] [] M 0 0 Q) (n := 2 ^ w 0 0) ?_ ?_ 1 h1p 0 0 (-4) (Or.inl ⟨bst_no p0, rfl⟩) (fun _ => rfl) (Nat.le_refl 1)
  · intro a c r hL hr _
    refine bX9_leastIn_16 _ _ _ _ _ _ hS ⟨fun _ => ?_, fun h => absurd (by rw [esz]; exact Int.le_refl _) h⟩
    rcases hL with ⟨e, e1⟩ | ⟨b, e, e1, e2, e3⟩
    · rw [e] at kk; rw [hr e1]; exact kk
    · rw [e] at kk; rw [e3]; exact kk
  · intro i hi ih a c r hL hr h1i
    refine bX9_leastIn_16 _ _ _ _ _ _ hS ⟨fun h => absurd h (by rw [esz]; omega), fun _ => ?_⟩
    rw [ind_n (by omega)]
    have r32 : R32 ((i : Int) + 1) := ⟨by omega, by omega⟩
    refine ⟨fun h => ⟨r32, ih a c r ?_ hr (by omega)⟩, fun h => ok9_strengthOf (by omega) hS hw hW (by omega) ⟨_, rfl, hS, fun h2 => ⟨r32, ih a c r ?_ hr (by omega)⟩, fun h2 => ok9_costIn (by omega) hS hw hW hI hR hb hi ⟨_, rfl, hS, ?_⟩⟩⟩
    · unfold LsS
      rw [bst_no (lsP_f fun z => h (by rw [z.2.1]; rfl))]
      exact hL
    · unfold LsS
      rw [bst_no (lsP_f fun z => by omega)]
      exact hL
    · have hp : lsP w g pull i = true := lsP_t.mpr ⟨by omega, by omega, by omega⟩
      rw [hgg]
      have new : bst w g (lsP w g pull) (i + 1) = some i → Wp G mX9_leastIn (d + 1) 0 0 16 [some (vR 96), some (vI base), some (vI pull), some (vI (thr w g : Nat)), some (vI (i : Int)), some (vI (cst w g i)), some (vI ((i : Int) + 1)), none, none] [] M 0 0 Q := fun e => ih 1 (cst w g i) i (Or.inr ⟨i, e, rfl, rfl, rfl⟩) (fun z => by omega) (by omega)
      refine ⟨fun ha => ⟨r32, new ?_⟩, fun ha => ?_⟩
      · rcases hL with ⟨e, e1⟩ | ⟨b, e, e1, e2, e3⟩
        · exact bst_first hp e
        · omega
      · rcases hL with ⟨e, e1⟩ | ⟨b, e, e1, e2, e3⟩
        · exact absurd (hr e1) ha
        · have hbb := (bst_in e).1
          have old : ¬ bet w g i b → Wp G mX9_leastIn (d + 1) 0 0 16 [some (vR 96), some (vI base), some (vI pull), some (vI (thr w g : Nat)), some (vI r), some (vI c), some (vI ((i : Int) + 1)), none, none] [] M 0 0 Q := fun hn => ih 1 c r (Or.inr ⟨b, bst_old hp e hn, rfl, e2, e3⟩) (fun z => by omega) (by omega)
          rw [e2] at old ⊢
          rw [e3] at old ⊢
          refine ⟨fun hlt => ⟨r32, new (bst_new hp e (Or.inl hlt))⟩, fun hlt => ⟨fun hne => ⟨r32, old ?_⟩, fun heq => ok_bits (by omega) ⟨_, rfl, hS, ok_bits (by omega) ⟨_, rfl, hS, r32, ?_⟩⟩⟩⟩
          · rintro (z | z)
            · exact hlt z
            · exact hne z.1
          · by_cases hpc : pc i 10 < pc b 10
            · have nb := new (bst_new hp e (Or.inr ⟨heq, hpc⟩))
              have n1 : ¬ ((pc b 10 : Nat) : Int) ≤ ((pc i 10 : Nat) : Int) := by omega
              rw [if_neg n1, if_neg (by decide), if_neg (by decide)]
              exact nb
            · have ob := old (by
                rintro (z | z)
                · exact hlt z
                · exact hpc z.2)
              have n1 : ((pc b 10 : Nat) : Int) ≤ ((pc i 10 : Nat) : Int) := by omega
              rw [if_pos n1, if_pos rfl, if_pos rfl]
              exact ob
end LEAST
