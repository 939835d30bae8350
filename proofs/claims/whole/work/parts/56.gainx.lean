/-! ===== gain of the class ===== -/
def ChG (M M' : MM) : Prop := M'.1 = M.1 ∧ M'.2.2 = M.2.2 ∧ ∀ q j, ¬ (q = 95 ∨ (q = 94 ∧ (j = 2 ∨ j = 3))) → gI M' q j = gI M q j
theorem ChG.rf {M : MM} : ChG M M := ⟨rfl, rfl, fun _ _ _ => rfl⟩
theorem ChG.tr {A B C : MM} (h1 : ChG A B) (h2 : ChG B C) : ChG A C := ⟨h2.1.trans h1.1, h2.2.1.trans h1.2.1, fun q j h => (h2.2.2 q j h).trans (h1.2.2 q j h)⟩
theorem ChG.st {A B : MM} {p k : Nat} {x : Int} (h : ChG A B) (hp : p = 95 ∨ (p = 94 ∧ (k = 2 ∨ k = 3))) : ChG A (stI B p k x) := ⟨h.1, h.2.1, fun q j hq => (gI_ne B x (fun z => hq (by rw [z.1, z.2]; exact hp))).trans (h.2.2 q j hq)⟩
theorem ChG.sh {A B : MM} (h : ChG A B) (hS : ShX A) : ShX B := hS.of h.2.1
theorem ChG.cw {A B : MM} {p : Nat} {w : WT} (hk : kd p = 7) (h : ChG A B) (hw : CW A p w) : CW B p w := by
  have := k7_at hk
  exact hw.of fun q hq j => h.2.2 q j (by unfold Pwo at hq; omega)
section GAINX
variable {G : GG} {M : MM} {d : Nat} {Q : Option AV → MM → Prop} {w : WT} {p : Nat}
theorem ok0_exchangeAt {a : Int} (hS : ShX M) (kk : Q (some (vI (if 0 ≤ a ∧ a < gI M 94 0 ∧ a < 6 then gI M 95 a.toNat else -4))) M) : Ok G mX0_exchangeAt d 0 0 [vR 94, vI a] M Q := by
  refine Ok_of rfl (Nat.le_of_ble_eq_true rfl) rfl ?_
  refine bX0_exchangeAt_0 _ hS ⟨fun h => by rwa [if_neg (by omega)] at kk, fun h => ⟨fun h2 => by rwa [if_neg (by omega)] at kk, fun h2 => ⟨fun h3 => by rwa [if_neg (by omega)] at kk, fun h3 => ⟨by omega, by rwa [if_pos (by omega)] at kk⟩⟩⟩⟩
theorem ok0_isGain {n : Nat} {c : Nat → Nat} (hd : 2 ≤ d) (hk : kd p = 7) (hS : ShX M) (hw : CW M p w) (hW : WOk w) (h0 : gI M 94 0 = n) (hn : 1 ≤ n ∧ n ≤ 6) (hc : ∀ i, i < n → gI M 95 i = c i ∧ c i < w 0 4)
    (k0 : ∀ M', ChG M M' → (∀ j, gI M' 95 j = gI M 95 j) → ¬ (w 9 (c (n - 1)) = w 8 (c 0) ∧ pm (fun i => w 10 (c i)) n < pm (fun i => w 11 (c i)) n) → Q (some (vI 0)) M')
    (k1 : ∀ M', ChG M M' → (∀ j, gI M' 95 j = gI M 95 j) → (w 9 (c (n - 1)) = w 8 (c 0) ∧ pm (fun i => w 10 (c i)) n < pm (fun i => w 11 (c i)) n) → gI M' 94 2 = (pm (fun i => w 11 (c i)) n : Nat) → gI M' 94 3 = (pm (fun i => w 10 (c i)) n : Nat) → Q (some (vI 1)) M') : Ok G mX0_isGain d 0 0 [vR 94, vR p] M Q := by
  obtain ⟨d, rfl⟩ : ∃ e, d = e + 1 := ⟨d - 1, by omega⟩
  refine Ok_of rfl (Nat.le_of_ble_eq_true rfl) rfl ?_
  have hE := hW.1.2.2.2.2
  obtain ⟨l1, l2⟩ := hc (n - 1) (by omega)
  obtain ⟨f1, f2⟩ := hc 0 (by omega)
  refine bX0_isGain_0 _ hk hS ⟨by rw [h0]; exact ⟨by omega, by omega⟩, ok0_exchangeAt hS ⟨_, rfl, hS, ?_⟩⟩
  rw [h0, if_pos (by omega), show ((n : Int) - 1).toNat = n - 1 by omega, l1]
  refine ok_givenBy (by omega) hk hS hw hW l2 ⟨_, rfl, hS, ?_⟩
  rw [f1]
  refine ok_takenBy (by omega) hk hS hw hW f2 ⟨_, rfl, hS, fun he => ?_, fun he => k0 M ChG.rf (fun _ => rfl) (fun z => he (by rw [z.1]))⟩
  have he : w 9 (c (n - 1)) = w 8 (c 0) := by omega
  rintro _ rfl _ rfl
  have hm : (∀ i, i < n → 1 ≤ w 10 (c i) ∧ w 10 (c i) ≤ 9) ∧ ∀ i, i < n → 1 ≤ w 11 (c i) ∧ w 11 (c i) ≤ 9 :=
    ⟨fun i hi => (hW.2.2.2.2.2 _ (hc i hi).2).2.2.2.1, fun i hi => (hW.2.2.2.2.2 _ (hc i hi).2).2.2.2.2⟩
  refine down (fun i => ∀ M', ChG M M' → (∀ j, gI M' 95 j = gI M 95 j) → gI M' 94 2 = (pm (fun i => w 11 (c i)) i : Nat) → gI M' 94 3 = (pm (fun i => w 10 (c i)) i : Nat) → Wp G mX0_isGain (d + 1) 0 0 43 [some (vR 94), some (vR p), none, some (vI (i : Int))] [] M' 0 0 Q) (n := n) ?_ ?_ 0 (Nat.zero_le _) _ ((ChG.rf.st (Or.inr ⟨rfl, Or.inl rfl⟩)).st (Or.inr ⟨rfl, Or.inr rfl⟩)) (fun j => by rw [gI_ne _ _ (by omega), gI_ne _ _ (by omega)]) (by rw [gI_ne _ _ (by omega), gI_same]; rfl) (by rw [gI_same]; rfl)
  · intro M' cg m1 m2 m3
    have e0 : gI M' 94 0 = n := (cg.2.2 94 0 (by omega)).trans h0
    refine bX0_isGain_43 _ hk _ (cg.sh hS) ⟨fun _ => ⟨fun h => k0 M' cg m1 (fun z => by rw [m2, m3] at h; omega), fun h => k1 M' cg m1 ⟨he, by rw [m2, m3] at h; omega⟩ m2 m3⟩, fun h => absurd (by omega) h⟩
  · intro i hi ih M' cg m1 m2 m3
    have e0 : gI M' 94 0 = n := (cg.2.2 94 0 (by omega)).trans h0
    obtain ⟨c1, c2⟩ := hc i hi
    have hS' := cg.sh hS
    have b1 := pm_6 (n := i + 1) (by omega) (fun j hj => hm.1 j (by omega))
    have b2 := pm_6 (n := i + 1) (by omega) (fun j hj => hm.2 j (by omega))
    have b3 := pm_6 (n := i) (by omega) (fun j hj => hm.1 j (by omega))
    refine bX0_isGain_43 _ hk _ hS' ⟨fun h => absurd h (by omega), fun _ => ⟨fun h => absurd h (by omega), fun _ => ⟨by omega, ?_⟩⟩⟩
    rw [Int.toNat_natCast, m1, c1, m2]
    refine ok_givenMuchBy (by omega) hk hS' (cg.cw hk hw) hW c2 ⟨_, rfl, hS', ?_⟩
    rw [← Int.natCast_mul]
    have x1 : pm (fun i => w 11 (c i)) i * w 11 (c i) = pm (fun i => w 11 (c i)) (i + 1) := rfl
    have x2 : pm (fun i => w 10 (c i)) i * w 10 (c i) = pm (fun i => w 10 (c i)) (i + 1) := rfl
    rw [x1]
    refine ⟨⟨by omega, by omega⟩, ?_⟩
    rintro _ rfl
    have cg2 := cg.st (p := 94) (k := 2) (x := ((pm (fun i => w 11 (c i)) (i + 1) : Nat) : Int)) (Or.inr ⟨rfl, Or.inl rfl⟩)
    rw [gI_ne _ _ (by omega), gI_ne _ _ (by omega), m1, c1, m3]
    refine ok_takenMuchBy (by omega) hk (cg2.sh hS) (cg2.cw hk hw) hW c2 ⟨_, rfl, cg2.sh hS, ?_⟩
    rw [← Int.natCast_mul, x2]
    refine ⟨⟨by omega, by omega⟩, ?_⟩
    rintro _ rfl
    refine ⟨⟨by omega, by omega⟩, ih _ (cg2.st (Or.inr ⟨rfl, Or.inr rfl⟩)) (fun j => ?_) ?_ (gI_same _ _ _ _)⟩
    · rw [gI_ne _ _ (by omega), gI_ne _ _ (by omega)]
      exact m1 j
    · rw [gI_ne _ _ (by omega), gI_same]
/-- what extend finds below a prefix -/
theorem ok0_extend {n : Nat} : ∀ {m j u d : Nat} {M : MM} {Q : Option AV → MM → Prop}, j + m = n → m + 3 ≤ d → kd p = 7 → ShX M → CW M p w → WOk w → gI M 94 0 = n → 1 ≤ n ∧ n ≤ 6 → 0 < w 0 4 → PFX w j u → (∀ i, i < j → gI M 95 i = (ch w j u i : Nat)) →
    (∀ M', ChG M M' → (∀ i, i < j → gI M' 95 i = gI M 95 i) → (∀ v, u * w 0 4 ^ m ≤ v → v < (u + 1) * w 0 4 ^ m → ¬ GN w n v) → Q (some (vI 0)) M') →
    (∀ M' v, ChG M M' → u * w 0 4 ^ m ≤ v → v < (u + 1) * w 0 4 ^ m → GN w n v → (∀ v', u * w 0 4 ^ m ≤ v' → v' < v → ¬ GN w n v') → (∀ i, i < n → gI M' 95 i = (ch w n v i : Nat)) → gI M' 94 2 = (pG w n v : Nat) → gI M' 94 3 = (pT w n v : Nat) → Q (some (vI 1)) M') →
    Ok G mX0_extend d 0 0 [vR 94, vR p, vI j, vI (om (fun i => 2 ^ ch w j u i) j : Nat)] M Q := by
  intro m
  induction m with
  | zero =>
    intro j u d M Q hjn hd hk hS hw hW h0 hn hE hp hc k0 k1
    obtain ⟨d, rfl⟩ : ∃ e, d = e + 1 := ⟨d - 1, by omega⟩
    refine Ok_of rfl (Nat.le_of_ble_eq_true rfl) rfl ?_
    have hjn : j = n := by omega
    subst hjn
    have hg := GN_end hn.1 hp
    simp only [Nat.pow_zero, Nat.mul_one] at k0 k1
    have body : Ok G mX0_isGain d 0 0 [vR 94, vR p] M (fun v M3 => ∃ r4 : Int, v = some (vI r4) ∧ ShX M3 ∧ ((r4 = 0 → (Q (some (vI 0)) M3)) ∧ (¬ (r4 = 0) → (Q (some (vI 1)) M3)))) := by
      refine ok0_isGain (c := ch w j u) (by omega) hk hS hw hW h0 hn (fun i hi => ⟨hc i hi, ch_lt hE⟩) (fun M' cg m1 hno => ⟨_, rfl, cg.sh hS, fun _ => k0 M' cg (fun i _ => m1 i) (fun v h1 h2 g => ?_), fun h => absurd rfl h⟩) (fun M' cg m1 hy m2 m3 => ⟨_, rfl, cg.sh hS, fun h => absurd h (by decide), fun _ => k1 M' u cg (Nat.le_refl _) (Nat.lt_succ_self _) (hg.mpr hy) (fun v' h1 h2 => by omega) (fun i hi => by rw [m1]; exact hc i hi) m2 m3⟩)
      have e : v = u := by omega
      subst e
      exact hno (hg.mp g)
    refine bX0_extend_0 _ hk _ _ hS ⟨fun h => by omega, fun _ => ⟨fun h => ⟨fun z => absurd h0.symm z, fun _ => body⟩, fun _ => ⟨fun h => by omega, fun _ => ⟨fun z => absurd h0.symm z, fun _ => body⟩⟩⟩⟩
  | succ m ihm =>
    intro j u d M Q hjn hd hk hS hw hW h0 hn hE hp hc k0 k1
    obtain ⟨d, rfl⟩ : ∃ e, d = e + 1 := ⟨d - 1, by omega⟩
    refine Ok_of rfl (Nat.le_of_ble_eq_true rfl) rfl ?_
    have hE6 := hW.1.2.2.2.2
    refine bX0_extend_0 _ hk _ _ hS ⟨fun h => by omega, fun _ => ⟨fun h => by omega, fun _ => ⟨fun _ => ?_, fun h => by omega⟩⟩⟩
    have ex : w 0 4 ^ (m + 1) = w 0 4 * w 0 4 ^ m := by rw [Nat.pow_succ, Nat.mul_comm]
    have e0 : u * w 0 4 ^ (m + 1) = (u * w 0 4 + 0) * w 0 4 ^ m := by rw [ex, Nat.add_zero, Nat.mul_assoc]
    have e1 : (u + 1) * w 0 4 ^ (m + 1) = (u * w 0 4 + w 0 4) * w 0 4 ^ m := by rw [ex, ← Nat.mul_assoc, Nat.succ_mul]
    rw [e0, e1] at k0
    rw [e0, e1] at k1
    have hus : om (fun i => 2 ^ ch w j u i) j < 2 ^ 6 := om_lt fun i hi => Nat.pow_lt_pow_right (by decide) (by have := ch_lt (w := w) (n := j) (v := u) (i := i) hE; show ch w j u i < 6; omega)
    refine down (fun x => ∀ M', ChG M M' → (∀ i, i < j → gI M' 95 i = gI M 95 i) → (∀ v, (u * w 0 4 + 0) * w 0 4 ^ m ≤ v → v < (u * w 0 4 + x) * w 0 4 ^ m → ¬ GN w n v) → Wp G mX0_extend (d + 1) 0 0 43 [some (vR 94), some (vR p), some (vI j), some (vI (om (fun i => 2 ^ ch w j u i) j : Nat)), some (vI (x : Int)), none] [] M' 0 0 Q) (n := w 0 4) ?_ ?_ 0 (Nat.zero_le _) M ChG.rf (fun _ _ => rfl) (fun v h1 h2 => by omega)
    · intro M' cg m1 m2
      have e4 := (cg.cw hk hw).1 4 (by decide)
      refine bX0_extend_43 _ hk _ _ _ (cg.sh hS) ⟨fun _ => k0 M' cg m1 m2, fun h => absurd (by omega) h⟩
    · intro x hx ih M' cg m1 m2
      have hS' := cg.sh hS
      have hw' := cg.cw hk hw
      have e4 := hw'.1 4 (by decide)
      have next : ∀ M2, ChG M M2 → (∀ i, i < j → gI M2 95 i = gI M 95 i) → (∀ v, (u * w 0 4 + x) * w 0 4 ^ m ≤ v → v < (u * w 0 4 + x + 1) * w 0 4 ^ m → ¬ GN w n v) → R32 ((x : Int) + 1) ∧ Wp G mX0_extend (d + 1) 0 0 43 [some (vR 94), some (vR p), some (vI j), some (vI (om (fun i => 2 ^ ch w j u i) j : Nat)), some (vI ((x : Int) + 1)), none] [] M2 0 0 Q := by
        intro M2 cg2 m3 m4
        refine ⟨⟨by omega, by omega⟩, ih M2 cg2 m3 (fun v h1 h2 => ?_)⟩
        rcases Nat.lt_or_ge v ((u * w 0 4 + x) * w 0 4 ^ m) with q | q
        · exact m2 v h1 q
        · exact m4 v q h2
      have hjn' : j + 1 + m = n := by omega
      -- the call for x, when the prefix with x is one
      have body : (∀ i, i < j → ch w j u i ≠ x) → (0 < j → w 9 (ch w j u (j - 1)) = w 8 x) → ((0 : Int) ≤ (j : Int) ∧ ((j : Int) : Int) < 6) ∧
          (∀ M6 : MM, M6 = stI M' 95 (j : Int).toNat x → (R32 ((j : Int) + 1) ∧ (Ok G mX0_extend d 0 0 [vR 94, vR p, vI ((j : Int) + 1), vI (iorv (om (fun i => 2 ^ ch w j u i) j : Nat) (ishlv 1 x))] M6 (fun v M7 => ∃ r8 : Int, v = some (vI r8) ∧ ShX M7 ∧
          ((r8 = 0 → (R32 ((x : Int) + 1) ∧ (Wp G mX0_extend (d + 1) 0 0 43 [some (vR 94), some (vR p), some (vI j), some (vI (om (fun i => 2 ^ ch w j u i) j : Nat)), some (vI ((x : Int) + 1)), none] [] M7 0 0 Q))) ∧
          (¬ (r8 = 0) → (Q (some (vI 1)) M7))))))) := by
        intro b1 b2
        refine ⟨by omega, ?_⟩
        rintro _ rfl
        refine ⟨⟨by omega, by omega⟩, ?_⟩
        have hpx := PFX_snoc hx hp b1 b2
        have h2x : 2 ^ x < 2 ^ 6 := Nat.pow_lt_pow_right (by decide) (by omega)
        have eo : om (fun i => 2 ^ ch w (j + 1) (u * w 0 4 + x) i) (j + 1) = om (fun i => 2 ^ ch w j u i) j ||| 2 ^ x := by
          show om (fun i => 2 ^ ch w (j + 1) (u * w 0 4 + x) i) j ||| 2 ^ ch w (j + 1) (u * w 0 4 + x) j = _
          rw [ch_new hx, om_cong (g := fun i => 2 ^ ch w j u i) (fun i hi => by rw [ch_old hx hi])]
        rw [ishl_1 (by omega), ior_n (by omega) (by omega), ← eo, Int.toNat_natCast, show (j : Int) + 1 = ((j + 1 : Nat) : Int) by omega]
        have cg6 : ChG M (stI M' 95 j x) := cg.st (Or.inl rfl)
        have g6 : ∀ i, i < j → gI (stI M' 95 j x) 95 i = gI M 95 i := fun i hi => (gI_ne _ _ (by omega)).trans (m1 i hi)
        refine ihm (j := j + 1) (u := u * w 0 4 + x) hjn' (by omega) hk (cg6.sh hS) (cg6.cw hk hw) hW ((cg6.2.2 94 0 (by omega)).trans h0) hn hE hpx (fun i hi => ?_) (fun M7 c7 m7 hno => ⟨_, rfl, c7.sh (cg6.sh hS), fun _ => next M7 (cg6.tr c7) (fun i hi => (m7 i (by omega)).trans (g6 i hi)) hno, fun h => absurd rfl h⟩) (fun M7 v c7 h1 h2 hg hf p1 p2 p3 => ⟨_, rfl, c7.sh (cg6.sh hS), fun h => absurd h (by decide), fun _ => k1 M7 v (cg6.tr c7) ?_ ?_ hg (fun v' h1' h2' => ?_) p1 p2 p3⟩)
        · rcases Nat.lt_or_ge i j with q | q
          · rw [g6 i q, hc i q, ch_old hx q]
          · rw [show i = j by omega, gI_same, ch_new hx]
        · exact Nat.le_trans (Nat.mul_le_mul_right _ (by omega)) h1
        · exact Nat.lt_of_lt_of_le h2 (Nat.mul_le_mul_right _ (by omega))
        · rcases Nat.lt_or_ge v' ((u * w 0 4 + x) * w 0 4 ^ m) with q | q
          · exact m2 v' h1' q
          · exact hf v' q h2'
      refine bX0_extend_43 _ hk _ _ _ hS' ⟨fun h => absurd h (by omega), fun _ => ?_⟩
      rw [bit_n (by omega) (by omega)]
      by_cases hb : (om (fun i => 2 ^ ch w j u i) j).testBit x = true
      · rw [if_pos hb, if_pos rfl]
        refine ⟨fun _ => next M' cg m1 (fun v h1 h2 => ?_), fun h => absurd h (by decide)⟩
        obtain ⟨i, hi, he⟩ := om_bit.mp hb
        rw [two_pow_bit] at he
        have := no_dbl hx hi (of_decide_eq_true he) h1 h2
        rw [hjn'] at this
        exact this
      · rw [if_neg hb, if_neg (by decide)]
        have b1 : ∀ i, i < j → ch w j u i ≠ x := fun i hi he => hb (om_bit.mpr ⟨i, hi, by rw [two_pow_bit]; exact decide_eq_true he⟩)
        refine ⟨fun h => absurd rfl h, fun _ => ⟨fun hj => body b1 (fun z => by omega), fun hj => ⟨⟨by omega, by omega⟩, ok0_exchangeAt hS' ⟨_, rfl, hS', ?_⟩⟩⟩⟩
        rw [(cg.2.2 94 0 (by omega)).trans h0, if_pos (by omega), show ((j : Int) - 1).toNat = j - 1 by omega, m1 (j - 1) (by omega), hc (j - 1) (by omega)]
        refine ok_givenBy (by omega) hk hS' hw' hW (ch_lt hE) ⟨_, rfl, hS', ok_takenBy (by omega) hk hS' hw' hW hx ⟨_, rfl, hS', fun he => body b1 (fun _ => by omega), fun he => next M' cg m1 (fun v h1 h2 => ?_)⟩⟩
        have := no_lnk hx (show 0 < j by omega) (fun z => he (by rw [z])) h1 h2
        rw [hjn'] at this
        exact this
end GAINX
