/-! ===== gain of the reference ===== -/
theorem mw_x {M : MM} {w : WT} (h : MW M w) {e : Nat} (he : e < w 0 4) : gI M 105 (4 * e) = w 8 e ∧ gI M 105 (4 * e + 1) = w 9 e ∧ gI M 105 (4 * e + 2) = w 10 e ∧ gI M 105 (4 * e + 3) = w 11 e :=
  ⟨h.2.2.2.2 e he 0 (by decide), h.2.2.2.2 e he 1 (by decide), h.2.2.2.2 e he 2 (by decide), h.2.2.2.2 e he 3 (by decide)⟩
theorem mw_of {M M' : MM} {w : WT} (h : MW M w) (c : ∀ q j, q ≤ 105 → gI M' q j = gI M q j) : MW M' w := by
  obtain ⟨⟨a1, a2, a3, a4, a5⟩, b, e, f, g⟩ := h
  refine ⟨⟨(c 96 5 (by decide)).trans a1, (c 96 9 (by decide)).trans a2, (c 96 10 (by decide)).trans a3, (c 96 13 (by decide)).trans a4, (c 96 15 (by decide)).trans a5⟩, fun t ht => ?_, fun i hi => ?_, fun i hi => (c 104 i (by decide)).trans (f i hi), fun x hx j hj => (c 105 _ (by decide)).trans (g x hx j hj)⟩
  · obtain ⟨b1, b2, b3⟩ := b t ht
    exact ⟨(c 99 t (by decide)).trans b1, (c 100 t (by decide)).trans b2, (c 101 t (by decide)).trans b3⟩
  · obtain ⟨c1, c2⟩ := e i hi
    exact ⟨(c 102 i (by decide)).trans c1, (c 103 i (by decide)).trans c2⟩
section GAINM
variable {G : GG} {M : MM} {d : Nat} {Q : Option AV → MM → Prop} {w s : WT}
theorem ok9_layChain {n v : Nat} (hS : ShM M) (h15 : gI M 96 15 = (w 0 4 : Nat)) (hE : 0 < w 0 4) (hn : n ≤ 6) (hv : v < 1000000) (kk : ∀ M', Ch (fun q => q = 110) M M' → (∀ i, i < n → gI M' 110 i = (ch w n v i : Nat)) → Q none M') : Ok G mX9_layChain d 0 0 [vR 96, vI v, vI n] M Q := by
  refine Ok_of rfl (Nat.le_of_ble_eq_true rfl) rfl ?_
  refine bX9_layChain_0 _ _ hS ⟨⟨by omega, by omega⟩, ?_⟩
  -- i places are done, from the last on
  have key : ∀ i, i ≤ n → ∀ M', Ch (fun q => q = 110) M M' → (∀ j, n - i ≤ j → j < n → gI M' 110 j = (ch w n v j : Nat)) → Wp G mX9_layChain d 0 0 7 [some (vR 96), none, none, some (vI (v / w 0 4 ^ i : Nat)), some (vI ((n : Int) - 1 - i))] [] M' 0 0 Q := by
    refine down _ (n := n) ?_ ?_
    · intro M' c hm
      exact bX9_layChain_7 _ _ (hS.ch c) ⟨fun _ => kk M' c (fun i hi => hm i (by omega) hi), fun h => by omega⟩
    · intro i hi ih M' c hm
      have hle := Nat.div_le_self v (w 0 4 ^ i)
      have hle2 := Nat.div_le_self v (w 0 4 ^ (i + 1))
      have h0p : ((w 0 4 : Nat) : Int) ≠ 0 := by omega
      have e15 : gI M' 96 15 = (w 0 4 : Nat) := (c.2.2 96 15 (by omega)).trans h15
      refine bX9_layChain_7 _ _ (hS.ch c) ⟨fun h => by omega, fun _ => ?_⟩
      rw [e15, tmod_n, show ((n : Int) - 1 - (i : Int)).toNat = n - 1 - i by omega]
      refine ⟨h0p, ⟨by omega, by omega⟩, ?_⟩
      rintro _ rfl
      have e15' : gI (stI M' 110 (n - 1 - i) (v / w 0 4 ^ i % w 0 4 : Nat)) 96 15 = (w 0 4 : Nat) := (gI_ne _ _ (by omega)).trans e15
      have ed : v / w 0 4 ^ i / w 0 4 = v / w 0 4 ^ (i + 1) := by rw [Nat.div_div_eq_div_mul, Nat.pow_succ]
      rw [e15', tdiv_n, ed]
      refine ⟨h0p, ⟨?_, ?_⟩, ⟨by omega, by omega⟩, ?_⟩
      · generalize v / w 0 4 ^ (i + 1) = y at *; omega
      · generalize v / w 0 4 ^ (i + 1) = y at *; omega
      rw [show (n : Int) - 1 - (i : Int) + -1 = (n : Int) - 1 - ((i + 1 : Nat) : Int) by omega]
      refine ih _ (c.st rfl) (fun j h1 h2 => ?_)
      rw [gI_st]
      by_cases hj : j = n - 1 - i
      · rw [if_pos ⟨rfl, hj⟩, hj]
        show _ = ((v / w 0 4 ^ (n - 1 - (n - 1 - i)) % w 0 4 : Nat) : Int)
        rw [show n - 1 - (n - 1 - i) = i by omega]
      · rw [if_neg (fun z => hj z.2)]
        exact hm j (by omega) h2
  have key := key 0 (Nat.zero_le _) M Ch.rf (fun j h1 h2 => by omega)
  rw [Nat.pow_zero, Nat.div_one, show (n : Int) - 1 - ((0 : Nat) : Int) = (n : Int) - 1 by omega] at key
  exact key
/-- the first k links of the chain hold -/
def GP (w : WT) (n v k : Nat) : Prop := ∀ j, j < k → (∀ i, i < j → ch w n v i ≠ ch w n v j) ∧ w 9 (ch w n v j) = w 8 (ch w n v ((j + 1) % n))
theorem GP_s {w : WT} {n v k : Nat} : GP w n v (k + 1) ↔ GP w n v k ∧ (∀ i, i < k → ch w n v i ≠ ch w n v k) ∧ w 9 (ch w n v k) = w 8 (ch w n v ((k + 1) % n)) := by
  constructor
  · intro h
    exact ⟨fun j hj => h j (by omega), h k (Nat.lt_succ_self k)⟩
  · rintro ⟨a, b⟩ j hj
    rcases Nat.lt_or_ge j k with q | q
    · exact a j q
    · rw [show j = k by omega]; exact b
theorem ok9_gains {n v : Nat} (hd : 1 ≤ d) (hS : ShM M) (hw : MW M w) (hW : WOk w) (hE : 0 < w 0 4) (hn : 1 ≤ n ∧ n ≤ 6) (hc : ∀ i, i < n → gI M 110 i = (ch w n v i : Nat)) (k0 : ¬ GN w n v → Q (some (vI 0)) M) (k1 : GN w n v → Q (some (vI 1)) M) : Ok G mX9_gains d 0 0 [vR 96, vI n] M Q := by
  obtain ⟨d, rfl⟩ : ∃ e, d = e + 1 := ⟨d - 1, by omega⟩
  refine Ok_of rfl (Nat.le_of_ble_eq_true rfl) rfl ?_
  refine bX9_gains_0 _ hS ?_
  have hE6 := hW.1.2.2.2.2
  obtain ⟨m1, m2⟩ := ch_m (n := n) (v := v) hW hE
  have hus : ∀ k, om (fun i => 2 ^ ch w n v i) k < 2 ^ 6 := fun k => om_lt fun i hi => Nat.pow_lt_pow_right (by decide) (by have := ch_lt (w := w) (n := n) (v := v) (i := i) hE; show ch w n v i < 6; omega)
  refine down (fun k => ∀ z : Int, (z = 1 ∧ GP w n v k ∨ z = 0 ∧ ¬ GP w n v k) → Wp G mX9_gains (d + 1) 0 0 13 [some (vR 96), some (vI n), some (vI (om (fun i => 2 ^ ch w n v i) k : Nat)), some (vL (pm (fun i => w 11 (ch w n v i)) k : Nat)), none, some (vL (pm (fun i => w 10 (ch w n v i)) k : Nat)), none, some (vI z), some (vI (k : Int)), none, none] [] M 0 0 Q) (n := n) ?_ ?_ 0 (Nat.zero_le _) 1 (Or.inl ⟨rfl, fun j hj => absurd hj (Nat.not_lt_zero j)⟩)
  · intro z hz
    refine bX9_gains_13 _ _ _ _ _ _ hS ⟨fun _ => ⟨fun h => k0 (fun g => ?_), fun h => ⟨fun h2 => k0 (fun g => ?_), fun h2 => k1 ⟨?_, ?_⟩⟩⟩, fun h => absurd (Int.le_refl _) h⟩
    · rcases hz with ⟨q, _⟩ | ⟨_, q⟩
      · omega
      · exact q g.1
    · have h3 : pT w n v < pG w n v := g.2
      have h4 : ((pG w n v : Nat) : Int) ≤ ((pT w n v : Nat) : Int) := h2
      omega
    · rcases hz with ⟨_, q⟩ | ⟨q, _⟩
      · exact q
      · omega
    · have h4 : ¬ ((pG w n v : Nat) : Int) ≤ ((pT w n v : Nat) : Int) := h2
      omega
  · intro k hk ih z hz
    have ck := ch_lt (w := w) (n := n) (v := v) (i := k) hE
    have hmod := Nat.mod_lt (k + 1) (show 0 < n by omega)
    have ck2 := ch_lt (w := w) (n := n) (v := v) (i := (k + 1) % n) hE
    have b1 := pm_6 (n := k + 1) (by omega) (fun i hi => m1 i (by omega))
    have b2 := pm_6 (n := k + 1) (by omega) (fun i hi => m2 i (by omega))
    have x1 : pm (fun i => w 11 (ch w n v i)) k * w 11 (ch w n v k) = pm (fun i => w 11 (ch w n v i)) (k + 1) := rfl
    have x2 : pm (fun i => w 10 (ch w n v i)) k * w 10 (ch w n v k) = pm (fun i => w 10 (ch w n v i)) (k + 1) := rfl
    have x3 : om (fun i => 2 ^ ch w n v i) (k + 1) = om (fun i => 2 ^ ch w n v i) k ||| 2 ^ ch w n v k := rfl
    have h1 := hus k
    have h2x : 2 ^ ch w n v k < 2 ^ 6 := Nat.pow_lt_pow_right (by decide) (by show ch w n v k < 6; omega)
    have e1 := hc k hk
    have e2 := hc ((k + 1) % n) hmod
    have em : Int.tmod ((k : Int) + 1) (n : Int) = (((k + 1) % n : Nat) : Int) := tmod_n (k + 1) n
    obtain ⟨g0, g1, g2, g3⟩ := mw_x hw ck
    obtain ⟨q0, q1, q2, q3⟩ := mw_x hw ck2
    have tl : ∀ z' : Int, (z' = 1 ∧ GP w n v (k + 1) ∨ z' = 0 ∧ ¬ GP w n v (k + 1)) → (R32 ((4 * (ch w n v k : Int)) + 2) ∧
        (((0 : Int) ≤ (4 * (ch w n v k : Int)) + 2 ∧ ((4 * (ch w n v k : Int)) + 2 : Int) < 24) ∧
        (R64 ((pm (fun i => w 10 (ch w n v i)) k : Nat) * (gI M 105 ((4 * (ch w n v k : Int)) + 2).toNat)) ∧
        (R32 ((4 * (ch w n v k : Int)) + 3) ∧
        (((0 : Int) ≤ (4 * (ch w n v k : Int)) + 3 ∧ ((4 * (ch w n v k : Int)) + 3 : Int) < 24) ∧
        (R64 ((pm (fun i => w 11 (ch w n v i)) k : Nat) * (gI M 105 ((4 * (ch w n v k : Int)) + 3).toNat)) ∧
        (R32 ((k : Int) + 1) ∧
        (Wp G mX9_gains (d + 1) 0 0 13 [some (vR 96), some (vI n), some (vI (iorv (om (fun i => 2 ^ ch w n v i) k : Nat) (ishlv 1 (ch w n v k : Int)))), some (vL ((pm (fun i => w 11 (ch w n v i)) k : Nat) * (gI M 105 ((4 * (ch w n v k : Int)) + 3).toNat))), none, some (vL ((pm (fun i => w 10 (ch w n v i)) k : Nat) * (gI M 105 ((4 * (ch w n v k : Int)) + 2).toNat))), none, some (vI z'), some (vI ((k : Int) + 1)), none, none] [] M 0 0 Q)))))))) := by
      intro z' hz'
      have t2 : ((4 * (ch w n v k : Int)) + 2).toNat = 4 * ch w n v k + 2 := by omega
      have t3 : ((4 * (ch w n v k : Int)) + 3).toNat = 4 * ch w n v k + 3 := by omega
      rw [t2, t3, g2, g3, ← Int.natCast_mul, ← Int.natCast_mul, x1, x2, ishl_1 (by omega), ior_n (by omega) (by omega), ← x3]
      exact ⟨⟨by omega, by omega⟩, ⟨by omega, by omega⟩, ⟨by omega, by omega⟩, ⟨by omega, by omega⟩, ⟨by omega, by omega⟩, ⟨by omega, by omega⟩, ⟨by omega, by omega⟩, ih z' hz'⟩
    refine bX9_gains_13 _ _ _ _ _ _ hS ⟨fun h => absurd h (by omega), fun _ => ?_⟩
    rw [em, Int.toNat_natCast, Int.toNat_natCast, e1, e2]
    refine ⟨⟨by omega, by omega⟩, ⟨by omega, by omega⟩, ⟨by omega, by omega⟩, by omega, ⟨by omega, by omega⟩, ⟨by omega, by omega⟩, fun hz0 => ?_, fun hz0 => ?_⟩
    · have hg : ¬ GP w n v k := by
        rcases hz with ⟨q, _⟩ | ⟨_, q⟩
        · omega
        · exact q
      exact tl 0 (Or.inr ⟨rfl, fun g => hg (GP_s.mp g).1⟩)
    · have hg : GP w n v k := by
        rcases hz with ⟨_, q⟩ | ⟨q, _⟩
        · exact q
        · omega
      refine ok_has (by omega) (by omega) ⟨_, rfl, hS, ?_⟩
      rw [e1]
      by_cases hb : (om (fun i => 2 ^ ch w n v i) k).testBit (ch w n v k) = true
      · rw [if_pos hb]
        refine ⟨fun _ => tl 0 (Or.inr ⟨rfl, fun g => ?_⟩), fun h => absurd h (by decide)⟩
        obtain ⟨i, hi, he⟩ := om_bit.mp hb
        rw [two_pow_bit] at he
        exact (GP_s.mp g).2.1 i hi (of_decide_eq_true he)
      · rw [if_neg hb]
        have hdd : ∀ i, i < k → ch w n v i ≠ ch w n v k := fun i hi he => hb (om_bit.mpr ⟨i, hi, by rw [two_pow_bit]; exact decide_eq_true he⟩)
        refine ⟨fun h => absurd rfl h, fun _ => ⟨⟨by omega, by omega⟩, ⟨by omega, by omega⟩, ⟨by omega, by omega⟩, ?_⟩⟩
        have t1 : ((4 * (ch w n v k : Int)) + 1).toNat = 4 * ch w n v k + 1 := by omega
        have t0 : (4 * (ch w n v ((k + 1) % n) : Int)).toNat = 4 * ch w n v ((k + 1) % n) := by omega
        rw [t1, t0, g1, q0]
        refine tl _ ?_
        by_cases hl : w 9 (ch w n v k) = w 8 (ch w n v ((k + 1) % n))
        · left
          exact ⟨if_pos (by rw [hl]), GP_s.mpr ⟨hg, hdd, hl⟩⟩
        · right
          exact ⟨if_neg (by omega), fun g => hl (GP_s.mp g).2.2⟩
theorem ok9_ofChain {n v : Nat} {k : Int} (hd : 1 ≤ d) (hS : ShM M) (hw : MW M w) (hW : WOk w) (hE : 0 < w 0 4) (hn : 1 ≤ n ∧ n ≤ 6) (hk : -3 ≤ k ∧ k ≤ 5) (hc : ∀ i, i < n → gI M 110 i = (ch w n v i : Nat)) (kk : Q (some (vI (gAns w n v k))) M) : Ok G mX9_ofChain d 0 0 [vR 96, vI k, vI n] M Q := by
  obtain ⟨d, rfl⟩ : ∃ e, d = e + 1 := ⟨d - 1, by omega⟩
  refine Ok_of rfl (Nat.le_of_ble_eq_true rfl) rfl ?_
  refine bX9_ofChain_0 _ _ hS ?_
  have hE6 := hW.1.2.2.2.2
  obtain ⟨m1, m2⟩ := ch_m (n := n) (v := v) hW hE
  refine down (fun i => Wp G mX9_ofChain (d + 1) 0 0 8 [some (vR 96), some (vI k), some (vI n), some (vL (pm (fun i => w 11 (ch w n v i)) i : Nat)), none, some (vL (pm (fun i => w 10 (ch w n v i)) i : Nat)), none, some (vI (i : Int)), none] [] M 0 0 Q) (n := n) ?_ ?_ 0 (Nat.zero_le _)
  · obtain ⟨⟨t1, t2⟩, t3, t4⟩ := pTG (v := v) hW hE hn.2
    have hg := gcd_ge (b := pT w n v) t3
    have hg0 : ((Nat.gcd (pG w n v) (pT w n v) : Nat) : Int) ≠ 0 := by omega
    have rr : ∀ x, x ≤ 531441 → R64 (Int.tdiv ((x : Nat) : Int) (Nat.gcd (pG w n v) (pT w n v) : Nat)) ∧ R32 (Int.tdiv ((x : Nat) : Int) (Nat.gcd (pG w n v) (pT w n v) : Nat)) := fun x hx => by
      have hle := Nat.div_le_self x (Nat.gcd (pG w n v) (pT w n v))
      rw [tdiv_n]
      generalize x / Nat.gcd (pG w n v) (pT w n v) = q at *
      exact ⟨⟨by omega, by omega⟩, by omega, by omega⟩
    refine bX9_ofChain_8 _ _ _ _ _ hS ⟨fun _ => ok9_divisor ⟨_, rfl, hS, ?_⟩, fun h => absurd (Int.le_refl _) h⟩
    unfold gAns at kk
    refine ⟨fun h1 => ⟨fun h2 => ⟨fun h3 => ?_, fun h3 => ?_⟩, fun h2 => ?_⟩, fun h1 => ?_⟩
    · rw [if_neg h3, if_neg h2, if_neg h1] at kk
      refine ⟨fun hle => ?_, fun hlt => ⟨⟨by omega, by omega⟩, ?_⟩⟩
      · rw [if_neg (by omega)] at kk
        exact kk
      · rw [if_pos (by omega)] at kk
        rw [hc k.toNat (by omega)]
        exact kk
    · rw [if_pos h3] at kk
      exact ⟨hg0, (rr _ t2).1, (rr _ t2).2, kk⟩
    · rw [if_neg (by omega), if_pos h2] at kk
      exact ⟨hg0, (rr _ t4).1, (rr _ t4).2, kk⟩
    · rw [if_neg (by omega), if_neg (by omega), if_pos h1] at kk
      exact kk
  · intro i hi ih
    have ck := ch_lt (w := w) (n := n) (v := v) (i := i) hE
    have b1 := pm_6 (n := i + 1) (by omega) (fun j hj => m1 j (by omega))
    have b2 := pm_6 (n := i + 1) (by omega) (fun j hj => m2 j (by omega))
    have x1 : pm (fun i => w 11 (ch w n v i)) i * w 11 (ch w n v i) = pm (fun i => w 11 (ch w n v i)) (i + 1) := rfl
    have x2 : pm (fun i => w 10 (ch w n v i)) i * w 10 (ch w n v i) = pm (fun i => w 10 (ch w n v i)) (i + 1) := rfl
    obtain ⟨g0, g1, g2, g3⟩ := mw_x hw ck
    refine bX9_ofChain_8 _ _ _ _ _ hS ⟨fun h => absurd h (by omega), fun _ => ?_⟩
    rw [Int.toNat_natCast, hc i hi]
    have t2 : ((4 * (ch w n v i : Int)) + 2).toNat = 4 * ch w n v i + 2 := by omega
    have t3 : ((4 * (ch w n v i : Int)) + 3).toNat = 4 * ch w n v i + 3 := by omega
    rw [t2, t3, g2, g3, ← Int.natCast_mul, ← Int.natCast_mul, x1, x2]
    exact ⟨⟨by omega, by omega⟩, ⟨by omega, by omega⟩, ⟨by omega, by omega⟩, ⟨by omega, by omega⟩, ⟨by omega, by omega⟩, ⟨by omega, by omega⟩, ⟨by omega, by omega⟩, ⟨by omega, by omega⟩, ⟨by omega, by omega⟩, ⟨by omega, by omega⟩, ih⟩
theorem ok9_gain {k : Int} (hd : 3 ≤ d) (hX : MIv M w s) (hP : PIv w s) (kk : ∀ M', Ch (fun q => q = 110) M M' → Q (some (vI (aGain w k))) M') : Ok G mX9_gain d 0 0 [vR 96, vI k] M Q := by
  obtain ⟨d, rfl⟩ : ∃ e, d = e + 1 := ⟨d - 1, by omega⟩
  refine Ok_of rfl (Nat.le_of_ble_eq_true rfl) rfl ?_
  have hW := hP.1
  have hS := hX.1
  have hw := hX.2.1
  have hE6 := hW.1.2.2.2.2
  refine bX9_gain_0 _ hS (ok_in ⟨_, rfl, hS, ?_⟩)
  rcases Classical.em (¬ (-3 ≤ k ∧ k ≤ 5)) with hc | hc
  · rw [if_neg hc]
    refine ⟨fun z => absurd rfl z, fun _ => ?_⟩
    have := kk M Ch.rf
    rwa [aGain_bad hc] at this
  have hc : -3 ≤ k ∧ k ≤ 5 := by omega
  rw [if_pos hc]
  refine ⟨fun _ => ?_, fun z => absurd z (by decide)⟩
  have h15 := hw.1.2.2.2.2
  have mwc : ∀ M', Ch (fun q => q = 110) M M' → MW M' w := fun M' c => mw_of hw (fun q j hq => c.2.2 q j (by omega))
  refine down (fun i => ∀ M', Ch (fun q => q = 110) M M' → (∀ n', 1 ≤ n' → n' < i + 1 → ∀ v', v' < w 0 4 ^ n' → ¬ GN w n' v') → Wp G mX9_gain (d + 1) 0 0 20 [some (vR 96), some (vI k), some (vI (w 0 4 ^ i : Nat)), some (vI ((i + 1 : Nat) : Int)), none] [] M' 0 0 Q) (n := w 0 4) ?_ ?_ 0 (Nat.zero_le _) M Ch.rf (fun n' h1 h2 => by omega)
  · intro M' c hno
    have e15 := (mwc M' c).1.2.2.2.2
    refine bX9_gain_20 _ _ _ (hS.ch c) ⟨fun _ => ?_, fun h => absurd (by omega) h⟩
    have := kk M' c
    rwa [aGain_no hc (fun n h1 h2 => hno n h1 (by omega))] at this
  · intro i hi ih M' c hno
    have hE : 0 < w 0 4 := by omega
    have e15 := (mwc M' c).1.2.2.2.2
    have ep : w 0 4 ^ (i + 1) = w 0 4 ^ i * w 0 4 := Nat.pow_succ _ _
    have hb : w 0 4 ^ (i + 1) ≤ 46656 := by
      have h1 : w 0 4 ^ (i + 1) ≤ 6 ^ (i + 1) := Nat.pow_le_pow_left hE6 _
      have h2 : 6 ^ (i + 1) ≤ 6 ^ 6 := Nat.pow_le_pow_right (by decide) (by omega)
      omega
    refine bX9_gain_20 _ _ _ (hS.ch c) ⟨fun h => absurd h (by omega), fun _ => ?_⟩
    rw [e15, ← Int.natCast_mul, ← ep]
    refine ⟨⟨by omega, by omega⟩, ?_⟩
    refine down (fun v => ∀ M2, Ch (fun q => q = 110) M M2 → (∀ v', v' < v → ¬ GN w (i + 1) v') → Wp G mX9_gain (d + 1) 0 0 38 [some (vR 96), some (vI k), some (vI (w 0 4 ^ (i + 1) : Nat)), some (vI ((i + 1 : Nat) : Int)), some (vI (v : Int))] [] M2 0 0 Q) (n := w 0 4 ^ (i + 1)) ?_ ?_ 0 (Nat.zero_le _) M' c (fun v' h => absurd h (Nat.not_lt_zero v'))
    · intro M2 c2 hv
      refine bX9_gain_38 _ _ _ _ (hS.ch c2) ⟨fun _ => ⟨⟨by omega, by omega⟩, ih M2 c2 (fun n' h1 h2 v' h3 => ?_)⟩, fun h => absurd (Int.le_refl _) h⟩
      rcases Nat.lt_or_ge n' (i + 1) with q | q
      · exact hno n' h1 q v' h3
      · have e : n' = i + 1 := by omega
        subst e
        exact hv v' h3
    · intro v hv ihv M2 c2 hvn
      have e15 := (mwc M2 c2).1.2.2.2.2
      refine bX9_gain_38 _ _ _ _ (hS.ch c2) ⟨fun h => absurd h (by omega), fun _ => ok9_layChain (w := w) (hS.ch c2) e15 hE (by omega) (by omega) fun M3 c3 hc3 => ⟨rfl, hS.ch (c2.tr c3), ?_⟩⟩
      have cc := c2.tr c3
      refine ok9_gains (by omega) (hS.ch cc) (mwc M3 cc) hW hE (by omega) hc3 (fun hg => ⟨_, rfl, hS.ch cc, fun _ => ⟨⟨by omega, by omega⟩, ihv M3 cc (fun v' h => ?_)⟩, fun z => absurd rfl z⟩) (fun hg => ⟨_, rfl, hS.ch cc, fun z => absurd z (by decide), fun _ => ?_⟩)
      · rcases Nat.lt_or_ge v' v with q | q
        · exact hvn v' q
        · rw [show v' = v by omega]; exact hg
      · refine ok9_ofChain (by omega) (hS.ch cc) (mwc M3 cc) hW hE (by omega) hc hc3 ⟨_, rfl, hS.ch cc, ?_⟩
        have := kk M3 cc
        rwa [aGain_is hc ⟨by omega, hv, hg, hvn, fun n' h1 h2 => hno n' h1 h2⟩] at this
end GAINM
