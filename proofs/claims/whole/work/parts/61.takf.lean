/-! ===== World.take: thing, exchange, all of it ===== -/
theorem km_adT {w : WT} {x : Nat → Nat} {k : Nat} : km (adT w x) k = km w k ||| if x 1 = k then 2 ^ w 0 0 else 0 := by
  have e0 : adT w x 0 0 = w 0 0 + 1 := up_same
  have en : adT w x 2 (w 0 0) = x 1 := by
    unfold adT
    rw [up_ne (by omega), up_same]
  have eo : ∀ i, i < w 0 0 → adT w x 2 i = w 2 i := fun i hi => by
    unfold adT
    rw [up_ne (by omega), up_ne (by omega), up_ne (by omega)]
  unfold km
  rw [e0, mk_succ]
  have e1 : mk (fun t => adT w x 2 t == k) (w 0 0) = mk (fun t => w 2 t == k) (w 0 0) := by
    unfold mk
    exact om_cong fun i hi => by
      show (if (adT w x 2 i == k) = true then 2 ^ i else 0) = if (w 2 i == k) = true then 2 ^ i else 0
      rw [eo i hi]
  rw [e1, en]
  congr 1
  by_cases h : x 1 = k
  · rw [if_pos h, if_pos (by rw [h]; exact beq_self_eq_true k)]
  · rw [if_neg h, if_neg (by intro z; exact h (eq_of_beq z))]
section TAKF
variable {G : GG} {M : MM} {d : Nat} {Q : Option AV → MM → Prop} {w : WT} {p : Nat}
theorem ok7_takeThing {x : Nat → Nat} (hk : kd p = 7) (hS : ShX M) (hw : CW M p w) (hW : WOk w) (k0 : ¬ okI w 116 x → Q (some (vI 0)) M) (k1 : okI w 116 x → ∀ M', Ch (Pwo p) M M' → CW M' p (adT w x) → Q (some (vI 1)) M') : Ok G mX7_takeThing d 0 0 [vR p, vI (x 0), vI (x 1)] M Q := by
  refine Ok_of rfl (Nat.le_of_ble_eq_true rfl) rfl ?_
  have e := hw.1 0 (by decide)
  have hb := hW.1.1
  have hi := okI_t (w := w) (x := x)
  refine bX7_takeThing_0 _ hk _ _ hS ⟨fun h => by omega, fun _ => ⟨fun h => k0 fun z => by have := hi.mp z; omega, fun h1 => ⟨fun h => k0 fun z => by have := hi.mp z; omega, fun h2 => ⟨fun h3 => ⟨by omega, ?_⟩, fun h => k0 fun z => by have := hi.mp z; omega⟩⟩⟩⟩
  have hok : okI w 116 x := hi.mpr ⟨by omega, by omega, by omega⟩
  have k1 := k1 hok
  have h10 : w 0 0 < 10 := by omega
  have h2n : 2 ^ w 0 0 < 2 ^ 10 := Nat.pow_lt_pow_right (by decide) h10
  rw [e, Int.toNat_natCast]
  rintro _ rfl
  have e2 : gI (stI M (p + 1) (w 0 0) (x 0)) p 0 = (w 0 0 : Nat) := (gI_ne _ _ (by omega)).trans e
  rw [e2, Int.toNat_natCast]
  refine ⟨by omega, ?_⟩
  rintro _ rfl
  have c2 : Ch (Pwo p) M (stI (stI M (p + 1) (w 0 0) (x 0)) (p + 2) (w 0 0) (x 1)) := (Ch.rf.st ⟨by omega, by omega⟩).st ⟨by omega, by omega⟩
  have g2 : ∀ j, gI (stI (stI M (p + 1) (w 0 0) (x 0)) (p + 2) (w 0 0) (x 1)) p j = gI M p j := fun j => (gI_ne _ _ (by omega)).trans (gI_ne _ _ (by omega))
  rw [g2 0, g2 5, e, ishl_1 (by omega), hw.2.1.1]
  have hm1 := km_lt hW 1
  have hm2 := km_lt hW 2
  have hm3 := km_lt hW 3
  -- the end
  have fin : ∀ (v : Nat → Nat), (∀ k, km (adT w x) k = km w k ||| v k) → (∀ k, v k < 1024) → ∀ M2, M2 = stI (stI M (p + 1) (w 0 0) (x 0)) (p + 2) (w 0 0) (x 1) → ∀ M3, M3 = stI (stI M2 p 5 (km (adT w x) 1 : Nat)) p 6 (km (adT w x) 2 : Nat) →
      Wp G mX7_takeThing d 0 0 109 [some (vR p), none, none, none] [vI (v 3), vI (gI M3 p 7), vR p] M3 0 0 Q := by
    rintro v hv hl M2 rfl M3 rfl
    have g3 : ∀ j, j ≠ 5 → j ≠ 6 → gI (stI (stI (stI (stI M (p + 1) (w 0 0) (x 0)) (p + 2) (w 0 0) (x 1)) p 5 (km (adT w x) 1 : Nat)) p 6 (km (adT w x) 2 : Nat)) p j = gI M p j := fun j h5 h6 => ((gI_ne _ _ (by omega)).trans (gI_ne _ _ (by omega))).trans (g2 j)
    rw [g3 7 (by decide) (by decide), hw.2.1.2.2]
    have hl3 := hl 3
    refine bX7_takeThing_109 _ hk _ _ (hS.ch ((c2.st ⟨Nat.le_refl _, by omega⟩).st ⟨Nat.le_refl _, by omega⟩)) ?_
    rw [ior_n (by omega) (by omega), ← hv 3]
    rintro _ rfl
    rw [gI_ne _ _ (by omega), g3 0 (by decide) (by decide), e]
    refine ⟨⟨by omega, by omega⟩, ?_⟩
    rintro _ rfl
    have cc := (((c2.st (p := p) (k := 5) (x := (km (adT w x) 1 : Nat)) ⟨Nat.le_refl _, by omega⟩).st (p := p) (k := 6) (x := (km (adT w x) 2 : Nat)) ⟨Nat.le_refl _, by omega⟩).st (p := p) (k := 7) (x := (km (adT w x) 3 : Nat)) ⟨Nat.le_refl _, by omega⟩).st (p := p) (k := 0) (x := (w 0 0 : Int) + 1) ⟨Nat.le_refl _, by omega⟩
    refine k1 _ cc (hw.add (c := 0) (fun j hj => ?_) (fun j hj => ?_) ⟨?_, ?_, ?_⟩ (fun j h1 h2 i hi => ⟨?_, ?_⟩) fun j h1 h2 h3 => ?_)
    · unfold adT; rw [up_at]
      by_cases ej : j = 0
      · rw [if_pos ⟨rfl, ej⟩, if_pos ej]
      · rw [if_neg (fun z => ej z.2), if_neg ej, up_ne (by omega), up_ne (by omega)]
    · rw [gI_st]
      by_cases ej : j = 0
      · rw [if_pos ⟨rfl, ej⟩, if_pos ej]; rfl
      · rw [if_neg (fun z => ej z.2), if_neg ej, gI_ne _ _ (by omega), g3 j (by omega) (by omega)]
    · rw [gI_ne _ _ (by omega), gI_ne _ _ (by omega), gI_ne _ _ (by omega), gI_same]
    · rw [gI_ne _ _ (by omega), gI_ne _ _ (by omega), gI_same]
    · rw [gI_ne _ _ (by omega), gI_same]
    · have := cix_ne (w := w) (c := 0) (j0 := 1) rfl hi
      have := cix_ne (w := w) (c := 0) (j0 := 2) rfl hi
      rw [gI_ne _ _ (by omega), gI_ne _ _ (by omega), gI_ne _ _ (by omega), gI_ne _ _ (by omega), gI_ne _ _ (by omega), gI_ne _ _ (by omega)]
    · have a1 := cix_ne (w := w) (c := 0) (j0 := 1) rfl hi
      have a2 := cix_ne (w := w) (c := 0) (j0 := 2) rfl hi
      unfold adT
      rw [up_ne (by omega), up_ne a2, up_ne a1]
    · have : j = 1 ∨ j = 2 := (by decide : ∀ j, j ≤ 11 → 1 ≤ j → cix j = 0 → j = 1 ∨ j = 2) j h2 h1 h3
      unfold adT
      rcases this with rfl | rfl
      · rw [gI_ne _ _ (by omega), gI_ne _ _ (by omega), gI_ne _ _ (by omega), gI_ne _ _ (by omega), gI_ne _ _ (by omega), gI_same, up_ne (by omega), up_ne (by omega), up_same]
      · rw [gI_ne _ _ (by omega), gI_ne _ _ (by omega), gI_ne _ _ (by omega), gI_ne _ _ (by omega), gI_same, up_ne (by omega), up_same]
  have hv : ∀ k, km (adT w x) k = km w k ||| (fun k => if x 1 = k then 2 ^ w 0 0 else 0) k := fun k => km_adT
  have hl : ∀ k, (fun k => if x 1 = k then 2 ^ w 0 0 else 0) k < 1024 := fun k => by
    show (if x 1 = k then 2 ^ w 0 0 else 0) < 1024
    split <;> omega
  have fin := fin _ hv hl _ rfl
  have e1 := hv 1
  have e2' := hv 2
  have b1 : ∀ v1 : Nat, v1 = (if x 1 = 1 then 2 ^ w 0 0 else 0) → Wp G mX7_takeThing d 0 0 71 [some (vR p), none, some (vI (x 1)), some (vI (2 ^ w 0 0 : Nat))] [vI (v1 : Nat), vI (km w 1 : Nat), vR p] (stI (stI M (p + 1) (w 0 0) (x 0)) (p + 2) (w 0 0) (x 1)) 0 0 Q := by
    rintro v1 rfl
    have hl1 : (if x 1 = 1 then 2 ^ w 0 0 else 0) < 2147483648 := Nat.lt_trans (hl 1) (by decide)
    refine bX7_takeThing_71 _ hk _ _ _ _ (hS.ch c2) ?_
    rw [ior_n (by omega) hl1, ← e1]
    rintro _ rfl
    rw [gI_ne _ _ (by omega), g2 6, hw.2.1.2.1]
    have b2 : ∀ v2 : Nat, v2 = (if x 1 = 2 then 2 ^ w 0 0 else 0) → Wp G mX7_takeThing d 0 0 90 [some (vR p), none, some (vI (x 1)), some (vI (2 ^ w 0 0 : Nat))] [vI (v2 : Nat), vI (km w 2 : Nat), vR p] (stI (stI (stI M (p + 1) (w 0 0) (x 0)) (p + 2) (w 0 0) (x 1)) p 5 (km (adT w x) 1 : Nat)) 0 0 Q := by
      rintro v2 rfl
      have hl2 : (if x 1 = 2 then 2 ^ w 0 0 else 0) < 2147483648 := Nat.lt_trans (hl 2) (by decide)
      refine bX7_takeThing_90 _ hk _ _ _ _ (hS.ch (c2.st ⟨Nat.le_refl _, by omega⟩)) ?_
      rw [ior_n (by omega) hl2, ← e2']
      rintro _ rfl
      refine ⟨fun h => ?_, fun h => ?_⟩
      · have := fin _ rfl
        rw [if_neg (by omega)] at this
        exact this
      · have := fin _ rfl
        rw [if_pos (by omega)] at this
        exact this
    exact ⟨fun h => b2 0 (by rw [if_neg (by omega)]), fun h => b2 _ (by rw [if_pos (by omega)])⟩
  exact ⟨fun h => b1 0 (by rw [if_neg (by omega)]), fun h => b1 _ (by rw [if_pos (by omega)])⟩
theorem ok7_takeExchange {x : Nat → Nat} (hd : 1 ≤ d) (hk : kd p = 7) (hS : ShX M) (hw : CW M p w) (hW : WOk w) (k0 : ¬ okI w 120 x → Q (some (vI 0)) M) (k1 : okI w 120 x → ∀ M', Ch (Pwo p) M M' → CW M' p (adX w x) → Q (some (vI 1)) M') : Ok G mX7_takeExchange d 0 0 [vR p, vI (x 0), vI (x 1), vI (x 2), vI (x 3)] M Q := by
  obtain ⟨d, rfl⟩ : ∃ e, d = e + 1 := ⟨d - 1, by omega⟩
  refine Ok_of rfl (Nat.le_of_ble_eq_true rfl) rfl ?_
  have e := hw.1 4 (by decide)
  have hb := hW.1.2.2.2.2
  have hi := okI_x (w := w) (x := x)
  refine bX7_takeExchange_0 _ hk _ _ _ _ hS ⟨fun h => by omega, fun _ => ok7_isOneFigure (fun f1 => ⟨_, rfl, hS, fun h => absurd h (by decide), fun _ => ok7_isOneFigure (fun f2 => ⟨_, rfl, hS, fun h => k0 fun z => ?_, fun h6 => ⟨fun h => absurd h (by decide), fun _ => ok7_areTwoThings hk hS hw (fun h2 => ⟨_, rfl, hS, fun _ => ?_, fun h => absurd h (by decide)⟩) (fun h2 => ⟨_, rfl, hS, fun h => absurd rfl h, fun _ => k0 fun z => h2 (hi.mp z).2.1⟩)⟩⟩) (fun f2 => ⟨_, rfl, hS, fun h => k0 fun z => f2 (hi.mp z).2.2.2, fun _ => ⟨fun _ => k0 fun z => f2 (hi.mp z).2.2.2, fun h => absurd rfl h⟩⟩)⟩) (fun f1 => ⟨_, rfl, hS, fun _ => ⟨fun _ => k0 fun z => f1 (hi.mp z).2.2.1, fun _ => k0 fun z => f1 (hi.mp z).2.2.1⟩, fun h => absurd rfl h⟩)⟩
  · have := (hi.mp z).1
    rw [if_neg (by omega)] at h
    exact absurd h (by decide)
  have h6 : w 0 4 < 6 := by
    rcases Nat.lt_or_ge (w 0 4) 6 with q | q
    · exact q
    · exact absurd (if_pos (by omega)) h6
  rw [e, Int.toNat_natCast]
  refine ⟨by omega, ?_⟩
  rintro _ rfl
  have e1 : gI (stI M (p + 8) (w 0 4) (x 0)) p 4 = (w 0 4 : Nat) := (gI_ne _ _ (by omega)).trans e
  rw [e1, Int.toNat_natCast]
  refine ⟨by omega, ?_⟩
  rintro _ rfl
  have e2 : gI (stI (stI M (p + 8) (w 0 4) (x 0)) (p + 9) (w 0 4) (x 1)) p 4 = (w 0 4 : Nat) := (gI_ne _ _ (by omega)).trans e1
  rw [e2, Int.toNat_natCast]
  refine ⟨by omega, ?_⟩
  rintro _ rfl
  have e3 : gI (stI (stI (stI M (p + 8) (w 0 4) (x 0)) (p + 9) (w 0 4) (x 1)) (p + 10) (w 0 4) (x 2)) p 4 = (w 0 4 : Nat) := (gI_ne _ _ (by omega)).trans e2
  rw [e3, Int.toNat_natCast]
  refine ⟨by omega, ?_⟩
  rintro _ rfl
  have e4 : gI (stI (stI (stI (stI M (p + 8) (w 0 4) (x 0)) (p + 9) (w 0 4) (x 1)) (p + 10) (w 0 4) (x 2)) (p + 11) (w 0 4) (x 3)) p 4 = (w 0 4 : Nat) := (gI_ne _ _ (by omega)).trans e3
  rw [e4]
  refine ⟨⟨by omega, by omega⟩, ?_⟩
  rintro _ rfl
  refine k1 (hi.mpr ⟨h6, h2, f1, f2⟩) _ (((((Ch.rf.st ⟨by omega, by omega⟩).st ⟨by omega, by omega⟩).st ⟨by omega, by omega⟩).st ⟨by omega, by omega⟩).st ⟨by omega, by omega⟩) (hw.add (c := 4) (fun j hj => ?_) (fun j hj => ?_) ⟨?_, ?_, ?_⟩ (fun j h1 h2 i hi => ⟨?_, ?_⟩) fun j h1 h2 h3 => ?_)
  · unfold adX; rw [up_at]
    by_cases ej : j = 4
    · rw [if_pos ⟨rfl, ej⟩, if_pos ej]
    · rw [if_neg (fun z => ej z.2), if_neg ej, up_ne (by omega), up_ne (by omega), up_ne (by omega), up_ne (by omega)]
  · rw [gI_st]
    by_cases ej : j = 4
    · rw [if_pos ⟨rfl, ej⟩, if_pos ej]; rfl
    · rw [if_neg (fun z => ej z.2), if_neg ej, gI_ne _ _ (by omega), gI_ne _ _ (by omega), gI_ne _ _ (by omega), gI_ne _ _ (by omega)]
  · rw [gI_ne _ _ (by omega), gI_ne _ _ (by omega), gI_ne _ _ (by omega), gI_ne _ _ (by omega), gI_ne _ _ (by omega)]; exact hw.2.1.1
  · rw [gI_ne _ _ (by omega), gI_ne _ _ (by omega), gI_ne _ _ (by omega), gI_ne _ _ (by omega), gI_ne _ _ (by omega)]; exact hw.2.1.2.1
  · rw [gI_ne _ _ (by omega), gI_ne _ _ (by omega), gI_ne _ _ (by omega), gI_ne _ _ (by omega), gI_ne _ _ (by omega)]; exact hw.2.1.2.2
  · have := cix_ne (w := w) (c := 4) (j0 := 8) rfl hi
    have := cix_ne (w := w) (c := 4) (j0 := 9) rfl hi
    have := cix_ne (w := w) (c := 4) (j0 := 10) rfl hi
    have := cix_ne (w := w) (c := 4) (j0 := 11) rfl hi
    rw [gI_ne _ _ (by omega), gI_ne _ _ (by omega), gI_ne _ _ (by omega), gI_ne _ _ (by omega), gI_ne _ _ (by omega)]
  · have a1 := cix_ne (w := w) (c := 4) (j0 := 8) rfl hi
    have a2 := cix_ne (w := w) (c := 4) (j0 := 9) rfl hi
    have a3 := cix_ne (w := w) (c := 4) (j0 := 10) rfl hi
    have a4 := cix_ne (w := w) (c := 4) (j0 := 11) rfl hi
    unfold adX
    rw [up_ne (by omega), up_ne a4, up_ne a3, up_ne a2, up_ne a1]
  · have : j = 8 ∨ j = 9 ∨ j = 10 ∨ j = 11 := (by decide : ∀ j, j ≤ 11 → 1 ≤ j → cix j = 4 → j = 8 ∨ j = 9 ∨ j = 10 ∨ j = 11) j h2 h1 h3
    unfold adX
    rcases this with rfl | rfl | rfl | rfl
    · rw [gI_ne _ _ (by omega), gI_ne _ _ (by omega), gI_ne _ _ (by omega), gI_ne _ _ (by omega), gI_same, up_ne (by omega), up_ne (by omega), up_ne (by omega), up_ne (by omega), up_same]
    · rw [gI_ne _ _ (by omega), gI_ne _ _ (by omega), gI_ne _ _ (by omega), gI_same, up_ne (by omega), up_ne (by omega), up_ne (by omega), up_same]
    · rw [gI_ne _ _ (by omega), gI_ne _ _ (by omega), gI_same, up_ne (by omega), up_ne (by omega), up_same]
    · rw [gI_ne _ _ (by omega), gI_same, up_ne (by omega), up_same]
theorem ok7_take {x : Nat → Nat} {c : Int} {y : Nat → Int} (hd : 2 ≤ d) (hk : kd p = 7) (hS : ShX M) (hw : CW M p w) (hW : WOk w) (hc : nb c ≠ 0) (hy : ∀ i, i < nb c → y i = (x i : Nat)) (k0 : ¬ okI w c x → Q (some (vI 0)) M) (k1 : okI w c x → ∀ M', Ch (Pwo p) M M' → CW M' p (adI w c x) → Q (some (vI 1)) M') : Ok G mX7_take d 0 0 [vR p, vI c, vI (y 0), vI (y 1), vI (y 2), vI (y 3)] M Q := by
  obtain ⟨d, rfl⟩ : ∃ e, d = e + 1 := ⟨d - 1, by omega⟩
  refine Ok_of rfl (Nat.le_of_ble_eq_true rfl) rfl ?_
  refine bX7_take_0 _ hk _ _ _ _ _ hS ⟨fun h => ?_, fun h => ?_, fun h => ?_, fun h => ?_, fun h => ?_, fun h => absurd (nb_0 h) hc⟩
  · subst h
    rw [hy 0 (by decide)]
    exact ok7_takeBeast hk hS hw hW (fun h => ⟨_, rfl, hS, Or.inl rfl, k0 h⟩) (fun h M' cc hw' => ⟨_, rfl, hS.ch cc, Or.inr rfl, k1 h M' cc hw'⟩)
  · subst h
    rw [hy 0 (by decide), hy 1 (by decide)]
    exact ok7_takePerson (by omega) hk hS hw hW (fun h => ⟨_, rfl, hS, Or.inl rfl, k0 h⟩) (fun h M' cc hw' => ⟨_, rfl, hS.ch cc, Or.inr rfl, k1 h M' cc hw'⟩)
  · subst h
    rw [hy 0 (by decide), hy 1 (by decide)]
    exact ok7_takeThing hk hS hw hW (fun h => ⟨_, rfl, hS, Or.inl rfl, k0 h⟩) (fun h M' cc hw' => ⟨_, rfl, hS.ch cc, Or.inr rfl, k1 h M' cc hw'⟩)
  · subst h
    rw [hy 0 (by decide), hy 1 (by decide), hy 2 (by decide), hy 3 (by decide)]
    exact ok7_takeExchange (by omega) hk hS hw hW (fun h => ⟨_, rfl, hS, Or.inl rfl, k0 h⟩) (fun h M' cc hw' => ⟨_, rfl, hS.ch cc, Or.inr rfl, k1 h M' cc hw'⟩)
  · subst h
    rw [hy 0 (by decide), hy 1 (by decide)]
    exact ok7_takeNeed (by omega) hk hS hw hW (fun h => ⟨_, rfl, hS, Or.inl rfl, k0 h⟩) (fun h M' cc hw' => ⟨_, rfl, hS.ch cc, Or.inr rfl, k1 h M' cc hw'⟩)
end TAKF
