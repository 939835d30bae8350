/-! ===== the reference holds several ===== -/
def bl (u : Nat) : List Nat := (List.range 4).filter (fun b => u.testBit b)
def lw4 (u : Nat) : Nat := if u.testBit 0 then 0 else if u.testBit 1 then 1 else if u.testBit 2 then 2 else 3
theorem bl_all : ∀ u : Nat, u < 16 → u ≠ 0 → bl u = lw4 u :: bl (nd u (2 ^ lw4 u)) ∧ u.testBit (lw4 u) = true ∧ nd u (2 ^ lw4 u) < u ∧ lw4 u < 4 ∧ ∀ k, k < lw4 u → u.testBit k = false := by decide +kernel
theorem bl_0 : bl 0 = [] := by decide
abbrev plu (w : WT) (u : Nat) : List Nat := (bl u).map (w 7)
def un (w s : WT) : Nat := mk (fun b => s 0 b == 0) (w 0 3)
theorem un_lt {w s : WT} (hW : WOk w) : un w s < 2 ^ w 0 3 := mk_lt (Nat.le_refl _)
theorem bl_un {w s : WT} (hW : WOk w) : bl (un w s) = lse s (w 0 3) := by
  have h4 := hW.1.2.2.2.1
  have e : bl (un w s) = (List.range 4).filter (fun b => decide (b < w 0 3) && s 0 b == 0) := by
    unfold bl
    refine List.filter_congr fun b _ => ?_
    unfold un
    rw [mk_bit]
  rw [e]
  generalize w 0 3 = n at *
  unfold lse
  have : n = 0 ∨ n = 1 ∨ n = 2 ∨ n = 3 ∨ n = 4 := by omega
  rcases this with rfl | rfl | rfl | rfl | rfl <;> simp [List.range_succ, List.range_zero, List.filter_cons, List.filter_append]
theorem lw4_is {u i : Nat} (h : u < 16) (h0 : u.testBit i = true) (h1 : ∀ k, k < i → u.testBit k = false) : lw4 u = i := by
  have hu : u ≠ 0 := fun z => by rw [z, Nat.zero_testBit] at h0; cases h0
  obtain ⟨-, a1, -, -, a2⟩ := bl_all u h hu
  rcases Nat.lt_trichotomy (lw4 u) i with q | q | q
  · rw [h1 _ q] at a1; cases a1
  · exact q
  · rw [a2 _ q] at h0; cases h0
theorem lor_spec {w : WT} {p s : Nat} {ps : List Nat} (h : hld w (p :: ps) s = true) : okr w p ps s (lor w p ps s) = true ∧ ∀ x, x < lor w p ps s → okr w p ps s x = false := by
  have key : ∀ r, okr w p ps s r = true → ∃ m, okr w p ps s m = true ∧ ∀ x, x < m → okr w p ps s x = false := by
    intro r
    induction r using Nat.strongRecOn with
    | _ r ih =>
      intro hr
      by_cases hx : ∃ x, x < r ∧ okr w p ps s x = true
      · obtain ⟨x, h1, h2⟩ := hx
        exact ih x h1 h2
      · refine ⟨r, hr, fun x hxr => ?_⟩
        cases ho : okr w p ps s x
        · rfl
        · exact absurd ⟨x, hxr, ho⟩ hx
  obtain ⟨r, hr⟩ := hld_t.mp h
  obtain ⟨m, h1, h2⟩ := key r hr
  rw [lor_is (Or.inr ⟨h1, h2⟩)]
  exact ⟨h1, h2⟩
/-- the rows of the reference below u, and of u below i -/
def HR (M : MM) (w : WT) (t u i : Nat) : Prop := ∀ v x, (v < u ∨ (v = u ∧ x < i)) → x < 2 ^ w 0 0 → sub x t → gI M 107 (1024 * v + x) = if hld w (plu w v) x then 1 else 0
def SR (M : MM) (w : WT) (i : Nat) : Prop := ∀ x, x < i → gI M 108 x = (str w x : Nat)
def Phl : Nat → Prop := fun q => q = 107 ∨ q = 108
theorem MW.hl {M M' : MM} {w : WT} (h : MW M w) (c : Ch Phl M M') : MW M' w := h.of fun q j hq => c.2.2 q j (by unfold Phl; omega)
theorem RV.hl {M M' : MM} {s : WT} {b : Nat} (h : RV M b s) (c : Ch Phl M M') : RV M' b s := by
  have e : ∀ j, gI M' 97 j = gI M 97 j := fun j => c.2.2 97 j (by unfold Phl; omega)
  unfold RV
  simp only [e]
  exact h
section MALL
variable {G : GG} {M : MM} {d : Nat} {Q : Option AV → MM → Prop}
theorem ok9_lowest {u : Nat} (hd : 1 ≤ d) (hS : ShM M) (hu : u < 16) (h0 : u ≠ 0) (kk : Q (some (vI (lw4 u : Nat))) M) : Ok G mX9_lowest d 0 0 [vR 96, vI u] M Q := by
  obtain ⟨d, rfl⟩ : ∃ e, d = e + 1 := ⟨d - 1, by omega⟩
  refine Ok_of rfl (Nat.le_of_ble_eq_true rfl) rfl ?_
  refine bX9_lowest_0 _ hS ?_
  obtain ⟨-, a1, -, a3, a2⟩ := bl_all u hu h0
  refine down (fun i => Wp G mX9_lowest (d + 1) 0 0 2 [none, some (vI u), some (vI (i : Int))] [] M 0 0 Q) (n := lw4 u) ?_ ?_ 0 (Nat.zero_le _)
  · refine bX9_lowest_2 _ _ hS (ok_has (by omega) (by omega) ⟨_, rfl, hS, ?_⟩)
    rw [a1]
    exact ⟨fun _ => kk, fun h => absurd h (by decide)⟩
  · intro i hi ih
    refine bX9_lowest_2 _ _ hS (ok_has (by omega) (by omega) ⟨_, rfl, hS, ?_⟩)
    rw [a2 i hi]
    exact ⟨fun h => absurd rfl h, fun _ => ⟨⟨by omega, by omega⟩, ih⟩⟩
theorem ok9_unbound {w s : WT} (hS : ShM M) (hw : MW M w) (hW : WOk w) (hR : RV M 0 s) (kk : Q (some (vI (un w s : Nat))) M) : Ok G mX9_unbound d 0 0 [vR 96] M Q := by
  refine Ok_of rfl (Nat.le_of_ble_eq_true rfl) rfl ?_
  refine bX9_unbound_0 hS ?_
  have h4 := hW.1.2.2.2.1
  have e0 := hw.1.2.2.2.1
  refine down (fun i => Wp G mX9_unbound d 0 0 4 [some (vR 96), some (vI (mk (fun b => s 0 b == 0) i : Nat)), some (vI (i : Int))] [] M 0 0 Q) (n := w 0 3) ?_ ?_ 0 (Nat.zero_le _)
  · exact bX9_unbound_4 _ _ hS ⟨fun _ => kk, fun h => absurd h (by omega)⟩
  · intro i hi ih
    refine bX9_unbound_4 _ _ hS ⟨fun h => absurd h (by omega), fun _ => ⟨⟨by omega, by omega⟩, ⟨by omega, by omega⟩, ⟨by omega, by omega⟩, ?_⟩⟩
    have er : (0 + (i : Int)).toNat = 0 + i := by omega
    rw [er, (hR.1 i (by omega)).1]
    rw [mk_succ] at ih
    have hml : mk (fun b => s 0 b == 0) i < 2 ^ 4 := mk_lt (by omega)
    by_cases hz : s 0 i = 0
    · rw [hz] at ih ⊢
      rw [if_pos (by rfl), ishl_1 (by omega), ior_n (by omega) (by have : 2 ^ i < 2 ^ 4 := Nat.pow_lt_pow_right (by decide) (by omega); omega)]
      exact ih
    · have hz2 : (s 0 i == 0) = false := by simpa using hz
      rw [hz2] at ih
      rw [if_neg (by omega), show (0 : Int) = ((0 : Nat) : Int) from rfl, ior_n (by omega) (by decide)]
      exact ih
theorem ok9_canHold {u set t : Nat} {w : WT} (hd : 2 ≤ d) (hS : ShM M) (hw : MW M w) (hW : WOk w) (hu : u < 2 ^ w 0 3) (h0 : u ≠ 0) (hs : set < 2 ^ w 0 0) (hst : sub set t) (hSR : SR M w (2 ^ w 0 0)) (hHR : HR M w t u 0) (kk : Q (some (vI (if hld w (plu w u) set then 1 else 0))) M) : Ok G mX9_canHold d 0 0 [vR 96, vI u, vI set] M Q := by
  obtain ⟨d, rfl⟩ : ∃ e, d = e + 1 := ⟨d - 1, by omega⟩
  refine Ok_of rfl (Nat.le_of_ble_eq_true rfl) rfl ?_
  have h4 := hW.1.2.2.2.1
  have hpw := pow_le hW
  have hu16 : u < 16 := Nat.lt_of_lt_of_le hu (Nat.pow_le_pow_right (n := 2) (j := 4) (by decide) h4)
  obtain ⟨a0, a1, a2, a3, a4⟩ := bl_all u hu16 h0
  refine bX9_canHold_0 _ _ hS (ok9_lowest (by omega) hS hu16 h0 ⟨_, rfl, hS, ?_⟩)
  rw [ishl_1 (by omega), ind_n (by omega)]
  have ef : plu w u = w 7 (lw4 u) :: plu w (nd u (2 ^ lw4 u)) := by
    unfold plu
    rw [a0]
    rfl
  have hfb : lw4 u < w 0 3 := bits_lt hu a1
  generalize lw4 u = f at *
  generalize nd u (2 ^ f) = v at *
  rw [ef] at kk
  refine dsub (fun r => (∀ x, r < x → okr w (w 7 f) (plu w v) set x = false) → Wp G mX9_canHold (d + 1) 0 0 21 [some (vR 96), none, some (vI set), some (vI (f : Int)), some (vI (v : Int)), some (vI 0), some (vI (r : Int))] [] M 0 0 Q) (s := set) ?_ ?_ (fun x hx => ?_)
  · intro hno
    have hf : ¬ hld w (w 7 f :: plu w v) set = true := fun z => by
      obtain ⟨r, hr⟩ := hld_t.mp z
      have := (okr_t.mp hr).1
      rw [hno r (by omega)] at hr
      cases hr
    rw [if_neg hf] at kk
    exact bX9_canHold_21 _ _ _ _ _ hS ⟨fun _ => ⟨Or.inl rfl, kk⟩, fun h => absurd (by omega) h⟩
  · intro r hr0 hr ih hno
    have hr2 := sub_le hr
    have en : iandv ((r : Int) - 1) (set : Int) = (((r - 1) &&& set : Nat) : Int) := by
      rw [show ((r : Int) - 1) = ((r - 1 : Nat) : Int) by omega, iand_n (by omega)]
    have r32 : R32 ((r : Int) - 1) := ⟨by omega, by omega⟩
    have nxt : okr w (w 7 f) (plu w v) set r = false → ∀ x, (r - 1) &&& set < x → okr w (w 7 f) (plu w v) set x = false := by
      intro hf x hx
      cases ho : okr w (w 7 f) (plu w v) set x
      · rfl
      · have hxs := (okr_t.mp ho).2.1
        rcases Nat.lt_trichotomy x r with q | q | q
        · have := next_sub r hxs hr q
          omega
        · rw [q, hf] at ho; cases ho
        · rw [hno x q] at ho; cases ho
    refine bX9_canHold_21 _ _ _ _ _ hS ⟨fun h => absurd h (by omega), fun _ => ⟨fun h => absurd rfl h, fun _ => ⟨⟨by omega, by omega⟩, ⟨by omega, by omega⟩, ?_⟩⟩⟩
    rw [Int.toNat_natCast, Int.toNat_natCast, hSR r (by omega), hw.2.2.2.1 f hfb, en, ind_n (by omega)]
    have hnl := nd_lt_of hr hr0
    have e1 : (1024 * (v : Int) + ((nd set r : Nat) : Int)).toNat = 1024 * v + nd set r := by omega
    rw [e1, hHR v (nd set r) (Or.inl a2) (by omega) (sub_tr nd_sub hst)]
    refine ⟨fun hlt => ⟨r32, ih (nxt ?_)⟩, fun hge => ⟨⟨by omega, by omega⟩, ⟨by omega, by omega⟩, ⟨by omega, by omega⟩, r32, ?_⟩⟩
    · cases ho : okr w (w 7 f) (plu w v) set r
      · rfl
      · have := (okr_t.mp ho).2.2.1
        omega
    · cases hh : hld w (plu w v) (nd set r)
      · refine ih (nxt ?_)
        cases ho : okr w (w 7 f) (plu w v) set r
        · rfl
        · rw [(okr_t.mp ho).2.2.2] at hh; cases hh
      · have ht : hld w (w 7 f :: plu w v) set = true := hld_t.mpr ⟨r, okr_t.mpr ⟨hr0, hr, by omega, hh⟩⟩
        rw [ht] at kk
        exact bX9_canHold_21 _ _ _ _ _ hS ⟨fun _ => ⟨Or.inr rfl, kk⟩, fun _ => ⟨fun _ => ⟨Or.inr rfl, kk⟩, fun h => absurd h (by decide)⟩⟩
  · cases ho : okr w (w 7 f) (plu w v) set x
    · rfl
    · have := sub_le (okr_t.mp ho).2.1
      omega
theorem ok9_layHolds {t : Nat} {w : WT} (hd : 3 ≤ d) (hS : ShM M) (hw : MW M w) (hW : WOk w) (kk : ∀ M', Ch Phl M M' → SR M' w (2 ^ w 0 0) → HR M' w t (2 ^ w 0 3) 0 → Q none M') : Ok G mX9_layHolds d 0 0 [vR 96, vI t] M Q := by
  obtain ⟨d, rfl⟩ : ∃ e, d = e + 1 := ⟨d - 1, by omega⟩
  refine Ok_of rfl (Nat.le_of_ble_eq_true rfl) rfl ?_
  have h4 := hW.1.2.2.2.1
  have h10 := hW.1.1
  have hpw := pow_le hW
  have hpb : 2 ^ w 0 3 ≤ 16 := Nat.pow_le_pow_right (n := 2) (j := 4) (by decide) h4
  have es : ∀ M', Ch Phl M M' → ishlv 1 (gI M' 96 5) = ((2 ^ w 0 0 : Nat) : Int) := fun M' c => by rw [(hw.hl c).1.1]; exact ishl_1 (by omega)
  have eb : ∀ M', Ch Phl M M' → ishlv 1 (gI M' 96 13) = ((2 ^ w 0 3 : Nat) : Int) := fun M' c => by rw [(hw.hl c).1.2.2.2.1]; exact ishl_1 (by omega)
  refine bX9_layHolds_0 _ hS ?_
  refine down (fun i => ∀ M', Ch Phl M M' → SR M' w i → Wp G mX9_layHolds (d + 1) 0 0 2 [some (vR 96), some (vI t), some (vI (i : Int)), none] [] M' 0 0 Q) (n := 2 ^ w 0 0) ?_ ?_ 0 (Nat.zero_le _) M Ch.rf (fun x hx => absurd hx (Nat.not_lt_zero x))
  · intro M1 c1 hSR
    refine bX9_layHolds_2 _ _ (hS.ch c1) ⟨fun _ => ?_, fun h => absurd (by rw [es M1 c1]; exact Int.le_refl _) h⟩
    refine down (fun u => ∀ M2, Ch Phl M M2 → SR M2 w (2 ^ w 0 0) → HR M2 w t u 0 → Wp G mX9_layHolds (d + 1) 0 0 31 [some (vR 96), some (vI t), some (vI (u : Int)), none] [] M2 0 0 Q) (n := 2 ^ w 0 3) ?_ ?_ 0 (Nat.zero_le _) M1 c1 hSR (fun v x h => by omega)
    · intro M2 c2 h1 h2
      exact bX9_layHolds_31 _ _ (hS.ch c2) ⟨fun _ => kk M2 c2 h1 h2, fun h => absurd (by rw [eb M2 c2]; exact Int.le_refl _) h⟩
    · intro u hu ihu M2 c2 h1 h2
      refine bX9_layHolds_31 _ _ (hS.ch c2) ⟨fun h => absurd h (by rw [eb M2 c2]; omega), fun _ => ?_⟩
      refine down (fun i => ∀ M3, Ch Phl M M3 → SR M3 w (2 ^ w 0 0) → HR M3 w t u i → Wp G mX9_layHolds (d + 1) 0 0 43 [some (vR 96), some (vI t), some (vI (u : Int)), some (vI (i : Int))] [] M3 0 0 Q) (n := 2 ^ w 0 0) ?_ ?_ 0 (Nat.zero_le _) M2 c2 h1 h2
      · intro M3 c3 g1 g2
        exact bX9_layHolds_43 _ _ _ (hS.ch c3) ⟨fun _ => ⟨⟨by omega, by omega⟩, ihu M3 c3 g1 (fun v x h hx hxt => g2 v x (by omega) hx hxt)⟩, fun h => absurd (by rw [es M3 c3]; exact Int.le_refl _) h⟩
      · intro i hi ih M3 c3 g1 g2
        have e1 : (1024 * (u : Int) + (i : Int)).toNat = 1024 * u + i := by omega
        have sto : ∀ y : Int, (sub i t → y = if hld w (plu w u) i then 1 else 0) → Wp G mX9_layHolds (d + 1) 0 0 43 [some (vR 96), some (vI t), some (vI (u : Int)), some (vI ((i : Int) + 1))] [] (stI M3 107 (1024 * u + i) y) 0 0 Q := by
          intro y hy
          refine ih _ (c3.st (Or.inl rfl)) (fun x hx => (gI_ne _ _ (by omega)).trans (g1 x hx)) (fun v x h hx hxt => ?_)
          by_cases hv : v = u ∧ x = i
          · rw [hv.1, hv.2, gI_same]
            rw [hv.2] at hxt
            exact hy hxt
          · rw [gI_ne _ _ (by omega)]
            exact g2 v x (by omega) hx hxt
        refine bX9_layHolds_43 _ _ _ (hS.ch c3) ⟨fun h => absurd h (by rw [es M3 c3]; omega), fun _ => ⟨⟨by omega, by omega⟩, ⟨by omega, by omega⟩, ?_⟩⟩
        rw [e1, ind_n (by omega)]
        refine ⟨fun hu0 => ⟨⟨by omega, by omega⟩, ?_⟩, fun hu0 => ⟨fun hns => ⟨⟨by omega, by omega⟩, ?_⟩, fun hsb => ?_⟩⟩
        · rintro _ rfl
          refine ⟨⟨by omega, by omega⟩, sto 1 fun _ => ?_⟩
          have : u = 0 := by omega
          subst this
          rfl
        · rintro _ rfl
          refine ⟨⟨by omega, by omega⟩, sto 0 fun z => absurd (by rw [sub_nd.mpr z]; rfl) hns⟩
        · refine ok9_canHold (by omega) (hS.ch c3) (hw.hl c3) hW hu (by omega) hi (sub_nd.mp (by omega)) g1 (fun v x h => g2 v x (by omega)) ⟨_, rfl, hS.ch c3, ⟨by omega, by omega⟩, ?_, ?_⟩
          · split <;> simp
          · rintro _ rfl
            refine ⟨⟨by omega, by omega⟩, sto _ fun _ => ?_⟩
            cases hld w (plu w u) i <;> rfl
  · intro i hi ih M1 c1 hSR
    refine bX9_layHolds_2 _ _ (hS.ch c1) ⟨fun h => absurd h (by rw [es M1 c1]; omega), fun _ => ok9_strengthOf (by omega) (hS.ch c1) (hw.hl c1) hW (by omega) ⟨_, rfl, hS.ch c1, ⟨by omega, by omega⟩, ?_⟩⟩
    rintro _ rfl
    rw [Int.toNat_natCast]
    refine ⟨⟨by omega, by omega⟩, ih _ (c1.st (Or.inr rfl)) fun x hx => ?_⟩
    by_cases he : x = i
    · rw [he, gI_same]
    · rw [gI_ne _ _ (by omega)]; exact hSR x (by omega)
end MALL
