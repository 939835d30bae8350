/-! ===== gains: chains of exchanges as numbers in base E ===== -/
def dig (E n v i : Nat) : Nat := v / E ^ (n - 1 - i) % E
theorem dig_lt {E n v i : Nat} (h : 0 < E) : dig E n v i < E := Nat.mod_lt _ h
theorem dig_pre {E j m u v i : Nat} (hE : 0 < E) (h1 : u * E ^ m ≤ v) (h2 : v < (u + 1) * E ^ m) (hi : i < j) : dig E (j + m) v i = dig E j u i := by
  have e : v / E ^ m = u := by
    have hp := Nat.pow_pos (n := m) hE
    refine Nat.div_eq_of_lt_le ?_ ?_
    · exact h1
    · exact h2
  unfold dig
  rw [show j + m - 1 - i = m + (j - 1 - i) by omega, Nat.pow_add, ← Nat.div_div_eq_div_mul, e]
theorem dig_old {E j u x i : Nat} (hx : x < E) (hi : i < j) : dig E (j + 1) (u * E + x) i = dig E j u i := dig_pre (m := 1) (by omega) (by rw [Nat.pow_one]; omega) (by rw [Nat.pow_one, Nat.succ_mul]; omega) hi
theorem dig_new {E j u x : Nat} (hx : x < E) : dig E (j + 1) (u * E + x) j = x := by
  unfold dig
  rw [show j + 1 - 1 - j = 0 by omega, Nat.pow_zero, Nat.div_one, Nat.add_comm, Nat.add_mul_mod_self_right, Nat.mod_eq_of_lt hx]
def pm (f : Nat → Nat) : Nat → Nat
  | 0 => 1
  | n + 1 => pm f n * f n
theorem pm_le {f : Nat → Nat} : ∀ {n : Nat}, (∀ i, i < n → 1 ≤ f i ∧ f i ≤ 9) → 1 ≤ pm f n ∧ pm f n ≤ 9 ^ n
  | 0, _ => ⟨Nat.le_refl _, Nat.le_refl _⟩
  | n + 1, h => by
    have h1 := pm_le (f := f) (n := n) (fun i hi => h i (Nat.lt_succ_of_lt hi))
    have h2 := h n (Nat.lt_succ_self n)
    refine ⟨Nat.mul_le_mul h1.1 h2.1, ?_⟩
    rw [Nat.pow_succ]
    exact Nat.mul_le_mul h1.2 h2.2
theorem pm_6 {f : Nat → Nat} {n : Nat} (hn : n ≤ 6) (h : ∀ i, i < n → 1 ≤ f i ∧ f i ≤ 9) : 1 ≤ pm f n ∧ pm f n ≤ 531441 := by
  have h1 := pm_le h
  have h2 : 9 ^ n ≤ 9 ^ 6 := Nat.pow_le_pow_right (by decide) hn
  exact ⟨h1.1, by omega⟩
theorem pm_cong {f g : Nat → Nat} : ∀ {n : Nat}, (∀ i, i < n → f i = g i) → pm f n = pm g n
  | 0, _ => rfl
  | n + 1, h => by
    show pm f n * f n = pm g n * g n
    rw [pm_cong (fun i hi => h i (Nat.lt_succ_of_lt hi)), h n (Nat.lt_succ_self n)]
/-- the k-th exchange of the chain v of n -/
def ch (w : WT) (n v i : Nat) : Nat := dig (w 0 4) n v i
theorem ch_lt {w : WT} {n v i : Nat} (h : 0 < w 0 4) : ch w n v i < w 0 4 := dig_lt h
theorem ch_pre {w : WT} {j m u v i : Nat} (hE : 0 < w 0 4) (h1 : u * w 0 4 ^ m ≤ v) (h2 : v < (u + 1) * w 0 4 ^ m) (hi : i < j) : ch w (j + m) v i = ch w j u i := dig_pre hE h1 h2 hi
theorem ch_old {w : WT} {j u x i : Nat} (hx : x < w 0 4) (hi : i < j) : ch w (j + 1) (u * w 0 4 + x) i = ch w j u i := dig_old hx hi
theorem ch_new {w : WT} {j u x : Nat} (hx : x < w 0 4) : ch w (j + 1) (u * w 0 4 + x) j = x := dig_new hx
abbrev pT (w : WT) (n v : Nat) : Nat := pm (fun i => w 10 (ch w n v i)) n
abbrev pG (w : WT) (n v : Nat) : Nat := pm (fun i => w 11 (ch w n v i)) n
/-- no exchange twice, each gives what the next takes, more comes back -/
def GN (w : WT) (n v : Nat) : Prop := (∀ k, k < n → (∀ i, i < k → ch w n v i ≠ ch w n v k) ∧ w 9 (ch w n v k) = w 8 (ch w n v ((k + 1) % n))) ∧ pT w n v < pG w n v
def isF (w : WT) (n v : Nat) : Prop := (1 ≤ n ∧ n ≤ w 0 4) ∧ v < w 0 4 ^ n ∧ GN w n v ∧ (∀ v', v' < v → ¬ GN w n v') ∧ ∀ n', 1 ≤ n' → n' < n → ∀ v', v' < w 0 4 ^ n' → ¬ GN w n' v'
def noF (w : WT) : Prop := ∀ n, 1 ≤ n → n ≤ w 0 4 → ∀ v, v < w 0 4 ^ n → ¬ GN w n v
theorem isF_one {w : WT} {n v n' v' : Nat} (h : isF w n v) (h' : isF w n' v') : n = n' ∧ v = v' := by
  have hn : n = n' := by
    rcases Nat.lt_trichotomy n n' with q | q | q
    · exact absurd h.2.2.1 (h'.2.2.2.2 n h.1.1 q v h.2.1)
    · exact q
    · exact absurd h'.2.2.1 (h.2.2.2.2 n' h'.1.1 q v' h'.2.1)
  subst hn
  refine ⟨rfl, ?_⟩
  rcases Nat.lt_trichotomy v v' with q | q | q
  · exact absurd h.2.2.1 (h'.2.2.2.1 v q)
  · exact q
  · exact absurd h'.2.2.1 (h.2.2.2.1 v' q)
def gAns (w : WT) (n v : Nat) (k : Int) : Int := if k = -3 then (pT w n v / Nat.gcd (pG w n v) (pT w n v) : Nat) else if k = -2 then (pG w n v / Nat.gcd (pG w n v) (pT w n v) : Nat) else if k = -1 then n else if k < n then (ch w n v k.toNat : Nat) else -4
noncomputable def aGain (w : WT) (k : Int) : Int := by
  classical
  exact if -3 ≤ k ∧ k ≤ 5 then (if h : ∃ p : Nat × Nat, isF w p.1 p.2 then gAns w (Classical.choose h).1 (Classical.choose h).2 k else -4) else -1
theorem aGain_bad {w : WT} {k : Int} (h : ¬ (-3 ≤ k ∧ k ≤ 5)) : aGain w k = -1 := by
  unfold aGain
  rw [if_neg h]
theorem aGain_no {w : WT} {k : Int} (h : -3 ≤ k ∧ k ≤ 5) (hn : noF w) : aGain w k = -4 := by
  unfold aGain
  rw [if_pos h, dif_neg]
  rintro ⟨⟨n, v⟩, hp⟩
  exact hn n hp.1.1 hp.1.2 v hp.2.1 hp.2.2.1
theorem aGain_is {w : WT} {k : Int} {n v : Nat} (h : -3 ≤ k ∧ k ≤ 5) (hn : isF w n v) : aGain w k = gAns w n v k := by
  unfold aGain
  have hx : ∃ p : Nat × Nat, isF w p.1 p.2 := ⟨(n, v), hn⟩
  rw [if_pos h, dif_pos hx]
  obtain ⟨e1, e2⟩ := isF_one (Classical.choose_spec hx) hn
  rw [e1, e2]
theorem GN_1 {w : WT} (hW : WOk w) {v : Nat} (hE : 0 < w 0 4) : ¬ GN w 1 v := by
  intro h
  have h1 := (h.1 0 (by decide)).2
  have e : (0 + 1) % 1 = 0 := rfl
  rw [e] at h1
  exact (hW.2.2.2.2.2 _ (ch_lt hE)).2.2.1 h1.symm
theorem ch_m {w : WT} {n v : Nat} (hW : WOk w) (hE : 0 < w 0 4) : (∀ i, i < n → 1 ≤ w 10 (ch w n v i) ∧ w 10 (ch w n v i) ≤ 9) ∧ ∀ i, i < n → 1 ≤ w 11 (ch w n v i) ∧ w 11 (ch w n v i) ≤ 9 :=
  ⟨fun i _ => (hW.2.2.2.2.2 _ (ch_lt hE)).2.2.2.1, fun i _ => (hW.2.2.2.2.2 _ (ch_lt hE)).2.2.2.2⟩
theorem pTG {w : WT} {n v : Nat} (hW : WOk w) (hE : 0 < w 0 4) (hn : n ≤ 6) : (1 ≤ pT w n v ∧ pT w n v ≤ 531441) ∧ 1 ≤ pG w n v ∧ pG w n v ≤ 531441 :=
  ⟨pm_6 hn (ch_m hW hE).1, pm_6 hn (ch_m hW hE).2⟩
/-- the first j exchanges: none twice, each gives what the next takes -/
def PFX (w : WT) (j u : Nat) : Prop := ∀ k, k < j → (∀ i, i < k → ch w j u i ≠ ch w j u k) ∧ (k + 1 < j → w 9 (ch w j u k) = w 8 (ch w j u (k + 1)))
theorem PFX_snoc {w : WT} {j u x : Nat} (hx : x < w 0 4) (h : PFX w j u) (h1 : ∀ i, i < j → ch w j u i ≠ x) (h2 : 0 < j → w 9 (ch w j u (j - 1)) = w 8 x) : PFX w (j + 1) (u * w 0 4 + x) := by
  intro k hk
  rcases Nat.lt_or_ge k j with q | q
  · obtain ⟨a, b⟩ := h k q
    refine ⟨fun i hi => ?_, fun hk2 => ?_⟩
    · rw [ch_old hx (by omega), ch_old hx q]
      exact a i hi
    · rw [ch_old hx q]
      rcases Nat.lt_or_ge (k + 1) j with q2 | q2
      · rw [ch_old hx q2]
        exact b q2
      · have e : k + 1 = j := by omega
        rw [e, ch_new hx]
        have := h2 (by omega)
        rw [show j - 1 = k by omega] at this
        exact this
  · have e : k = j := by omega
    subst e
    refine ⟨fun i hi => ?_, fun hk2 => by omega⟩
    rw [ch_old hx hi, ch_new hx]
    exact h1 i hi
theorem no_dbl {w : WT} {j m u x v i : Nat} (hx : x < w 0 4) (hi : i < j) (he : ch w j u i = x) (h1 : (u * w 0 4 + x) * w 0 4 ^ m ≤ v) (h2 : v < (u * w 0 4 + x + 1) * w 0 4 ^ m) : ¬ GN w (j + 1 + m) v := by
  intro h
  have hE : 0 < w 0 4 := by omega
  refine (h.1 j (by omega)).1 i hi ?_
  rw [ch_pre hE h1 h2 (by omega), ch_pre hE h1 h2 (by omega), ch_old hx hi, ch_new hx]
  exact he
theorem no_lnk {w : WT} {j m u x v : Nat} (hx : x < w 0 4) (hj : 0 < j) (he : w 9 (ch w j u (j - 1)) ≠ w 8 x) (h1 : (u * w 0 4 + x) * w 0 4 ^ m ≤ v) (h2 : v < (u * w 0 4 + x + 1) * w 0 4 ^ m) : ¬ GN w (j + 1 + m) v := by
  intro h
  have hE : 0 < w 0 4 := by omega
  have := (h.1 (j - 1) (by omega)).2
  rw [show j - 1 + 1 = j by omega, Nat.mod_eq_of_lt (by omega), ch_pre hE h1 h2 (by omega), ch_pre hE h1 h2 (by omega), ch_old hx (by omega), ch_new hx] at this
  exact he this
theorem GN_end {w : WT} {n u : Nat} (hn : 1 ≤ n) (h : PFX w n u) : GN w n u ↔ (w 9 (ch w n u (n - 1)) = w 8 (ch w n u 0) ∧ pT w n u < pG w n u) := by
  constructor
  · intro g
    have := (g.1 (n - 1) (by omega)).2
    rw [show n - 1 + 1 = n by omega, Nat.mod_self] at this
    exact ⟨this, g.2⟩
  · rintro ⟨a, b⟩
    refine ⟨fun k hk => ⟨(h k hk).1, ?_⟩, b⟩
    rcases Nat.lt_or_ge (k + 1) n with q | q
    · rw [Nat.mod_eq_of_lt q]
      exact (h k hk).2 q
    · have e : k = n - 1 := by omega
      rw [e, show n - 1 + 1 = n by omega, Nat.mod_self]
      exact a
