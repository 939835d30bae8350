/-! ===== fields, arrays, calls, ends, over the one big world ===== -/
/-- the field k of class ci, as class I's entry ix names it -/
def FL (I : MI) (ix ci k : Nat) : Prop := ∃ (C : String) (T : u_T) (N : Nat), cls[ci]? = some (C, T, N) ∧ k < N ∧ nf ci = N ∧ Cond.fieldLink I.1.cls ix C (T k).2.1 (T k).2.2.1 ∈ WS ∧ (T k).1 = C ∧ (∀ w ∈ u_ws C T N, w ∈ WS) ∧ (∀ k, k < N → parseFieldDescriptor (T k).2.2.1 = some (tyc ci k)) ∧ (∀ a, a < N → ∀ b, b < N → a ≠ b → (T a).2.1 ≠ (T b).2.1) ∧ ci < 10
def fin (ci k : Nat) : Bool := match cls[ci]? with
  | some (_, T, _) => (T k).2.2.2
  | none => false
section WM
variable {G : GG} {I : MI} {XX : State → Prop} {d mc ms : Nat} {Z : Nat → (Nat → Nat) → List Frame → Array Value → State → State → Prop} {pc pc' : Nat} {L : List (Option AV)} {st : List AV} {M : MM} {k n : Nat}
theorem kd_ok {q N : Nat} (h : kd q ≤ 12) (hv : vok N (vR q)) : 1 ≤ q ∧ q ≤ N := by
  obtain ⟨h1, h2⟩ := kd_in h
  refine ⟨h1, ?_⟩
  rcases (show q ≤ N ∨ 700 ≤ q from hv) with z | z
  · exact z
  · omega
theorem cr_pos {ad : Nat → Nat} {q : Nat} (h : 1 ≤ q) : cr ad q = .ref (ad q) := by
  unfold cr
  rw [if_neg (by omega)]
def fsl (ad : Nat → Nat) (M : MM) (p : Nat) : List Value := (List.range (nf (kd p))).map (fun k => if isr (kd p) k then cr ad (M.2.2 p k) else .int (Int32.ofInt (M.2.1 p k)))
theorem ce_obj {cy : Nat → ClassId} {ad : Nat → Nat} {p : Nat} (h : kd p < 10) : ce cy ad M p = .inr (kd p, fsl ad M p) := by
  unfold ce
  rw [if_pos h]
  rfl
theorem ce_int {cy : Nat → ClassId} {ad : Nat → Nat} {p : Nat} (h : kd p = 10) : ce cy ad M p = .inl (cy 10, ln p, .inl (fun j => Int32.ofInt (M.2.1 p j))) := by
  unfold ce
  rw [if_neg (by omega), if_neg (by omega), h]
theorem ce_bool {cy : Nat → ClassId} {ad : Nat → Nat} {p : Nat} (h : kd p = 11) : ce cy ad M p = .inl (cy 11, ln p, .inl (fun j => Int32.ofInt (M.2.1 p j))) := by
  unfold ce
  rw [if_neg (by omega), if_neg (by omega), h]
theorem ce_ref {cy : Nat → ClassId} {ad : Nat → Nat} {p : Nat} (h : kd p = 12) : ce cy ad M p = .inl (cy 12, ln p, .inr (.inr (.inr (.inr (fun j => if M.2.2 p j = 0 then none else some (ad (M.2.2 p j))))))) := by
  unfold ce
  rw [if_neg (by omega), if_pos h]
theorem fsl_get {ad : Nat → Nat} {p j : Nat} (h : j < nf (kd p)) : (fsl ad M p)[j]? = some (if isr (kd p) j then cr ad (M.2.2 p j) else .int (Int32.ofInt (M.2.1 p j))) := by
  unfold fsl
  rw [List.getElem?_map, List.getElem?_range h]
  rfl
theorem fsl_len {ad : Nat → Nat} {p : Nat} : (fsl ad M p).length = nf (kd p) := by
  unfold fsl
  rw [List.length_map, List.length_range]
theorem ce_other {cy : Nat → ClassId} {ad : Nat → Nat} {M' : MM} {q : Nat} (h1 : ∀ j, M'.2.1 q j = M.2.1 q j) (h2 : ∀ j, M'.2.2 q j = M.2.2 q j) : ce cy ad M' q = ce cy ad M q := by
  unfold ce
  simp only [h1, h2]
theorem fsl_stI {ad : Nat → Nat} {p j : Nat} {x : Int} (hj : j < nf (kd p)) (hr : isr (kd p) j = false) : (fsl ad M p).set j (.int (Int32.ofInt x)) = fsl ad (stI M p j x) p := by
  refine List.ext_getElem? fun i => ?_
  by_cases hi : i < nf (kd p)
  · by_cases hij : j = i
    · subst hij
      rw [List.getElem?_set_self (by rw [fsl_len]; exact hj), fsl_get hi]
      simp [hr, stI]
    · rw [List.getElem?_set_ne hij, fsl_get hi, fsl_get hi]
      have : ¬ i = j := fun z => hij z.symm
      simp [stI, this]
  · rw [List.getElem?_eq_none (by rw [List.length_set, fsl_len]; omega), List.getElem?_eq_none (by rw [fsl_len]; omega)]
theorem fsl_stR {ad : Nat → Nat} {p j x : Nat} (hj : j < nf (kd p)) (hr : isr (kd p) j = true) : (fsl ad M p).set j (cr ad x) = fsl ad (stR M p j x) p := by
  refine List.ext_getElem? fun i => ?_
  by_cases hi : i < nf (kd p)
  · by_cases hij : j = i
    · subst hij
      rw [List.getElem?_set_self (by rw [fsl_len]; exact hj), fsl_get hi]
      simp [hr, stR]
    · rw [List.getElem?_set_ne hij, fsl_get hi, fsl_get hi]
      have : ¬ i = j := fun z => hij z.symm
      simp [stR, this]
  · rw [List.getElem?_eq_none (by rw [List.length_set, fsl_len]; omega), List.getElem?_eq_none (by rw [fsl_len]; omega)]
theorem ww_stI {ad : Nat → Nat} {H H1 : Heap} {p j : Nat} {x : Int} {E : va_E} (hW : Ww G ad M H) (h1 : 1 ≤ p) (h2 : p ≤ M.1) (hx : R32 x) (hE : ce G.2.2.1 ad (stI M p j x) p = E)
    (hP : va_P G.2.1 cls ((wl G ad M).set (p - 1) (ad p, E)) H1) (hD : va_D (gA G) ((wl G ad M).set (p - 1) (ad p, E))) : Ww G ad (stI M p j x) H1 := by
  have e := wl_set (G := G) (ad := ad) (M := M) (M' := stI M p j x) h1 h2 rfl hE (fun q hq => ce_other (fun i => by simp [stI, hq]) (fun i => rfl))
  rw [e] at hP hD
  refine ⟨hP, hD, fun a b => ?_, hW.2.2.2.1, hW.2.2.2.2.1, hW.2.2.2.2.2⟩
  show R32 (if a = p ∧ b = j then x else M.2.1 a b)
  split
  · exact hx
  · exact hW.2.2.1 a b
theorem ww_stR {ad : Nat → Nat} {H H1 : Heap} {p j x : Nat} {E : va_E} (hW : Ww G ad M H) (h1 : 1 ≤ p) (h2 : p ≤ M.1) (hx : x ≤ M.1) (hE : ce G.2.2.1 ad (stR M p j x) p = E)
    (hP : va_P G.2.1 cls ((wl G ad M).set (p - 1) (ad p, E)) H1) (hD : va_D (gA G) ((wl G ad M).set (p - 1) (ad p, E))) : Ww G ad (stR M p j x) H1 := by
  have e := wl_set (G := G) (ad := ad) (M := M) (M' := stR M p j x) h1 h2 rfl hE (fun q hq => ce_other (fun i => rfl) (fun i => by simp [stR, hq]))
  rw [e] at hP hD
  refine ⟨hP, hD, hW.2.2.1, fun a b => ?_, hW.2.2.2.2.1, hW.2.2.2.2.2⟩
  show (if a = p ∧ b = j then x else M.2.2 a b) ≤ M.1
  split
  · exact hx
  · exact hW.2.2.2.1 a b
-- fields
theorem wg_getI {ix ci j q : Nat} (hd : Dd I.2.1 pc (.getfield ix) 3 pc') (hf : FL I ix ci j) (hi : isr ci j = false) (hq : kd q = ci) (kk : Wg G I XX d mc ms Z pc' L (vI (gI M q j) :: st) M k n) : Wg G I XX d mc ms Z pc L (vR q :: st) M k n := by
  obtain ⟨hd, rfl⟩ := hd
  obtain ⟨C, T, N, f1, f2, f3, f4, f5, f6, f7, f8, f9⟩ := hf
  subst hq
  refine wg_stk (fun hL hs h32 _ => vcI (h32 q j) (vok_tl hs)) (fun p e s m args below meth c H locs Ls ad Q X hW hS hh hs z => ?_) kk
  obtain ⟨h1, h2⟩ := kd_ok (by omega) (vok_hd hs)
  have hg := wl_get (G := G) (ad := ad) h1 h2
  rw [ce_obj f9] at hg
  simp only [List.map_cons, cv, cr_pos h1]
  simp only [List.map_cons, cv, gI] at z
  exact va_get X.1 X.2.1 X.2.2.2.2.2.2.1 f6 X.2.2.2.2.2.1 X.2.2.2.2.2.2.2.1 hW.1 (q - 1) hg f1 j f2 (X.2.2.2.2.2.2.1 _ f4) (fun x hx => by rw [f5] at hx; exact hx) (v := .int (Int32.ofInt (M.2.1 q j))) (by rw [fsl_get (by rw [f3]; exact f2), hi]; rfl) hd z
theorem wg_getR {ix ci j q : Nat} (hd : Dd I.2.1 pc (.getfield ix) 3 pc') (hf : FL I ix ci j) (hi : isr ci j = true) (hq : kd q = ci) (kk : Wg G I XX d mc ms Z pc' L (vR (gR M q j) :: st) M k n) : Wg G I XX d mc ms Z pc L (vR q :: st) M k n := by
  obtain ⟨hd, rfl⟩ := hd
  obtain ⟨C, T, N, f1, f2, f3, f4, f5, f6, f7, f8, f9⟩ := hf
  subst hq
  refine wg_stk (fun hL hs h32 hr => vcR (Or.inl (hr q j)) (vok_tl hs)) (fun p e s m args below meth c H locs Ls ad Q X hW hS hh hs z => ?_) kk
  obtain ⟨h1, h2⟩ := kd_ok (by omega) (vok_hd hs)
  have hg := wl_get (G := G) (ad := ad) h1 h2
  rw [ce_obj f9] at hg
  simp only [List.map_cons, cv, cr_pos h1]
  simp only [List.map_cons, cv, gR] at z
  exact va_get X.1 X.2.1 X.2.2.2.2.2.2.1 f6 X.2.2.2.2.2.1 X.2.2.2.2.2.2.2.1 hW.1 (q - 1) hg f1 j f2 (X.2.2.2.2.2.2.1 _ f4) (fun x hx => by rw [f5] at hx; exact hx) (v := cr ad (M.2.2 q j)) (by rw [fsl_get (by rw [f3]; exact f2), hi]; rfl) hd z
theorem wg_getRe {ix ci j q r : Nat} (hd : Dd I.2.1 pc (.getfield ix) 3 pc') (hf : FL I ix ci j) (hi : isr ci j = true) (hq : kd q = ci) (he : gR M q j = r) (kk : Wg G I XX d mc ms Z pc' L (vR r :: st) M k n) : Wg G I XX d mc ms Z pc L (vR q :: st) M k n := wg_getR hd hf hi hq (by rw [he]; exact kk)
theorem fin_eq {ci j N : Nat} {C : String} {T : u_T} (h : cls[ci]? = some (C, T, N)) : fin ci j = (T j).2.2.2 := by
  unfold fin
  rw [h]
theorem wg_putI {ix ci j q : Nat} {x : Int} (hd : Dd I.2.1 pc (.putfield ix) 3 pc') (hf : FL I ix ci j) (hi : tyc ci j = .int) (hfin : fin ci j = false) (hq : kd q = ci) (kk : Wg G I XX d mc ms Z pc' L st (stI M q j x) k n) : Wg G I XX d mc ms Z pc L (vI x :: vR q :: st) M k n := by
  obtain ⟨hd, rfl⟩ := hd
  obtain ⟨C, T, N, f1, f2, f3, f4, f5, f6, f7, f8, f9⟩ := hf
  subst hq
  have hir : isr (kd q) j = false := by unfold isr; rw [hi]
  intro hL hs p e s m args below meth c H locs Ls ad n0 ad0 X hW hS hl hn hE
  obtain ⟨h1, h2⟩ := kd_ok (by omega) (vok_hd (vok_tl hs))
  have hg := wl_get (G := G) (ad := ad) h1 h2
  rw [ce_obj f9] at hg
  simp only [List.map_cons, cv, cr_pos h1]
  rw [fin_eq f1] at hfin
  refine va_put X.1 X.2.1 X.2.2.2.2.2.2.1 f6 (tyc (kd q)) f7 f8 X.2.2.2.2.2.1 X.2.2.2.2.2.2.2.1 hW.1 hW.2.1 hS (q - 1) hg f1 j f2 (X.2.2.2.2.2.2.1 _ f4) (fun x hx => by rw [f5] at hx; exact hx) hfin (ty := .int) (v := .int (Int32.ofInt x)) (by rw [f7 j f2, hi]) rfl rfl (by rw [fsl_len, f3]; exact f2) hd (fun H1 locs1 hP1 hD1 hS1 => ?_)
  have hx : R32 x := vok_hd hs
  rw [fsl_stI (by rw [f3]; exact f2) hir, ← ce_obj (cy := G.2.2.1) f9] at hP1 hD1
  exact kk hL (vok_tl (vok_tl hs)) p e s m args below meth c H1 locs1 Ls ad n0 ad0 X (ww_stI hW h1 h2 hx rfl hP1 hD1) hS1 hl hn hE
theorem wg_putR {ix ci j q x : Nat} {ty : FieldType} (hd : Dd I.2.1 pc (.putfield ix) 3 pc') (hf : FL I ix ci j) (hi : tyc ci j = ty) (hir : isr ci j = true) (hn : ∀ v, narrow ty v = v) (hft : ∀ ad, fits ty (cr ad x) = true) (hfin : fin ci j = false) (hq : kd q = ci) (hx : x < 700) (kk : Wg G I XX d mc ms Z pc' L st (stR M q j x) k n) : Wg G I XX d mc ms Z pc L (vR x :: vR q :: st) M k n := by
  obtain ⟨hd, rfl⟩ := hd
  obtain ⟨C, T, N, f1, f2, f3, f4, f5, f6, f7, f8, f9⟩ := hf
  subst hq
  intro hL hs p e s m args below meth c H locs Ls ad n0 ad0 X hW hS hl hn0 hE
  obtain ⟨h1, h2⟩ := kd_ok (by omega) (vok_hd (vok_tl hs))
  have hg := wl_get (G := G) (ad := ad) h1 h2
  rw [ce_obj f9] at hg
  simp only [List.map_cons, cv, cr_pos h1]
  rw [fin_eq f1] at hfin
  refine va_put X.1 X.2.1 X.2.2.2.2.2.2.1 f6 (tyc (kd q)) f7 f8 X.2.2.2.2.2.1 X.2.2.2.2.2.2.2.1 hW.1 hW.2.1 hS (q - 1) hg f1 j f2 (X.2.2.2.2.2.2.1 _ f4) (fun x hx => by rw [f5] at hx; exact hx) hfin (ty := ty) (v := cr ad x) (by rw [f7 j f2, hi]) (hn _) (hft ad) (by rw [fsl_len, f3]; exact f2) hd (fun H1 locs1 hP1 hD1 hS1 => ?_)
  have hx2 : x ≤ M.1 := by
    rcases (show x ≤ M.1 ∨ 700 ≤ x from vok_hd hs) with z | z
    · exact z
    · omega
  rw [fsl_stR (by rw [f3]; exact f2) hir, ← ce_obj (cy := G.2.2.1) f9] at hP1 hD1
  exact kk hL (vok_tl (vok_tl hs)) p e s m args below meth c H1 locs1 Ls ad n0 ad0 X (ww_stR hW h1 h2 hx2 rfl hP1 hD1) hS1 hl hn0 hE
theorem wg_putFR {ix ci j q x : Nat} {ty : FieldType} (hd : Dd I.2.1 pc (.putfield ix) 3 pc') (hf : FL I ix ci j) (hi : tyc ci j = ty) (hir : isr ci j = true) (hn : ∀ v, narrow ty v = v) (hft : ∀ ad, fits ty (cr ad x) = true) (hfin : fin ci j = true) (hI : I.1.name = "<init>") (hC : ∀ r, cls[ci]? = some r → r.1 = I.1.cls) (hq : kd q = ci) (hx : x < 700) (kk : Wg G I XX d mc ms Z pc' L st (stR M q j x) k n) : Wg G I XX d mc ms Z pc L (vR x :: vR q :: st) M k n := by
  obtain ⟨hd, rfl⟩ := hd
  obtain ⟨C, T, N, f1, f2, f3, f4, f5, f6, f7, f8, f9⟩ := hf
  subst hq
  intro hL hs p e s m args below meth c H locs Ls ad n0 ad0 X hW hS hl hn0 hE
  obtain ⟨h1, h2⟩ := kd_ok (by omega) (vok_hd (vok_tl hs))
  have hg := wl_get (G := G) (ad := ad) h1 h2
  rw [ce_obj f9] at hg
  simp only [List.map_cons, cv, cr_pos h1]
  rw [fin_eq f1] at hfin
  refine va_putF X.1 X.2.1 X.2.2.2.2.2.2.1 f6 (tyc (kd q)) f7 f8 X.2.2.2.2.2.1 X.2.2.2.2.2.2.2.1 hW.1 hW.2.1 hS (q - 1) hg f1 j f2 (X.2.2.2.2.2.2.1 _ f4) (fun x hx => by rw [f5] at hx; exact hx) hfin (X.2.2.2.2.2.2.2.2.2.1.trans hI) (f5.trans (hC _ f1)) (ty := ty) (v := cr ad x) (by rw [f7 j f2, hi]) (hn _) (hft ad) (by rw [fsl_len, f3]; exact f2) hd (fun H1 locs1 hP1 hD1 hS1 => ?_)
  have hx2 : x ≤ M.1 := by
    rcases (show x ≤ M.1 ∨ 700 ≤ x from vok_hd hs) with z | z
    · exact z
    · omega
  rw [fsl_stR (by rw [f3]; exact f2) hir, ← ce_obj (cy := G.2.2.1) f9] at hP1 hD1
  exact kk hL (vok_tl (vok_tl hs)) p e s m args below meth c H1 locs1 Ls ad n0 ad0 X (ww_stR hW h1 h2 hx2 rfl hP1 hD1) hS1 hl hn0 hE
-- arrays
theorem o_in {i : Int} {N : Nat} (hi : R32 i) (h0 : 0 ≤ i) (h : i < N) (hN : N ≤ 16384) : vp_in (Int32.ofInt i) N ∧ (Int32.ofInt i).toNatClampNeg = i.toNat := by
  have e : (Int32.ofInt i).toInt = i := o32_t hi
  refine ⟨?_, ?_⟩
  · rw [vp_in_iff, e]
    exact ⟨h0, h⟩
  · show (Int32.ofInt i).toInt.toNat = i.toNat
    rw [e]
theorem wg_iald {q : Nat} {i : Int} (hd : Dd I.2.1 pc (.iaload) 1 pc') (hq : kd q = 10) (h0 : 0 ≤ i) (h : i < ln q) (kk : Wg G I XX d mc ms Z pc' L (vI (gI M q i.toNat) :: st) M k n) : Wg G I XX d mc ms Z pc L (vI i :: vR q :: st) M k n := by
  obtain ⟨hd, rfl⟩ := hd
  refine wg_stk (fun hL hs h32 _ => vcI (h32 q _) (vok_tl (vok_tl hs))) (fun p e s m args below meth c H locs Ls ad Q X hW hS hh hs z => ?_) kk
  obtain ⟨h1, h2⟩ := kd_ok (by omega) (vok_hd (vok_tl hs))
  obtain ⟨a1, a2⟩ := o_in (vok_hd hs) h0 h (ln_le q)
  have hg := wl_get (G := G) (ad := ad) h1 h2
  rw [ce_int hq] at hg
  simp only [List.map_cons, cv, cr_pos h1]
  simp only [List.map_cons, cv, gI, ← a2] at z
  exact va_iald X.1 X.2.1 X.2.2.2.2.2.2.2.1 hW.1 (q - 1) 0 hg rfl a1 hd z
theorem wg_bald {q : Nat} {i : Int} (hd : Dd I.2.1 pc (.baload) 1 pc') (hq : kd q = 11) (h0 : 0 ≤ i) (h : i < ln q) (kk : Wg G I XX d mc ms Z pc' L (vI (gI M q i.toNat) :: st) M k n) : Wg G I XX d mc ms Z pc L (vI i :: vR q :: st) M k n := by
  obtain ⟨hd, rfl⟩ := hd
  refine wg_stk (fun hL hs h32 _ => vcI (h32 q _) (vok_tl (vok_tl hs))) (fun p e s m args below meth c H locs Ls ad Q X hW hS hh hs z => ?_) kk
  obtain ⟨h1, h2⟩ := kd_ok (by omega) (vok_hd (vok_tl hs))
  obtain ⟨a1, a2⟩ := o_in (vok_hd hs) h0 h (ln_le q)
  have hg := wl_get (G := G) (ad := ad) h1 h2
  rw [ce_bool hq] at hg
  simp only [List.map_cons, cv, cr_pos h1]
  simp only [List.map_cons, cv, gI, ← a2] at z
  exact va_zald X.1 X.2.1 X.2.2.2.2.2.2.2.1 hW.1 (q - 1) 1 hg rfl a1 hd z
theorem wg_aald {q : Nat} {i : Int} (hd : Dd I.2.1 pc (.aaload) 1 pc') (hq : kd q = 12) (h0 : 0 ≤ i) (h : i < ln q) (kk : Wg G I XX d mc ms Z pc' L (vR (gR M q i.toNat) :: st) M k n) : Wg G I XX d mc ms Z pc L (vI i :: vR q :: st) M k n := by
  obtain ⟨hd, rfl⟩ := hd
  refine wg_stk (fun hL hs h32 hr => vcR (Or.inl (hr q _)) (vok_tl (vok_tl hs))) (fun p e s m args below meth c H locs Ls ad Q X hW hS hh hs z => ?_) kk
  obtain ⟨h1, h2⟩ := kd_ok (by omega) (vok_hd (vok_tl hs))
  obtain ⟨a1, a2⟩ := o_in (vok_hd hs) h0 h (ln_le q)
  have hg := wl_get (G := G) (ad := ad) h1 h2
  rw [ce_ref hq] at hg
  simp only [List.map_cons, cv, cr_pos h1]
  simp only [List.map_cons, cv, gR, ← a2] at z
  refine va_aldq X.1 X.2.1 X.2.2.2.2.2.2.2.1 hW.1 (q - 1) 2 hg rfl a1 hd ?_
  have e1 : va_rf (if M.2.2 q (Int32.ofInt i).toNatClampNeg = 0 then none else some (ad (M.2.2 q (Int32.ofInt i).toNatClampNeg))) = cr ad (M.2.2 q (Int32.ofInt i).toNatClampNeg) := by
    unfold cr
    split <;> rfl
  rw [e1]
  exact z
theorem wg_iast {q : Nat} {i x : Int} (hd : Dd I.2.1 pc (.iastore) 1 pc') (hq : kd q = 10) (h0 : 0 ≤ i) (h : i < ln q) (kk : Wg G I XX d mc ms Z pc' L st (stI M q i.toNat x) k n) : Wg G I XX d mc ms Z pc L (vI x :: vI i :: vR q :: st) M k n := by
  obtain ⟨hd, rfl⟩ := hd
  intro hL hs p e s m args below meth c H locs Ls ad n0 ad0 X hW hS hl hn hE
  obtain ⟨h1, h2⟩ := kd_ok (by omega) (vok_hd (vok_tl (vok_tl hs)))
  obtain ⟨a1, a2⟩ := o_in (vok_hd (vok_tl hs)) h0 h (ln_le q)
  have hx : R32 x := vok_hd hs
  have hg := wl_get (G := G) (ad := ad) h1 h2
  rw [ce_int hq] at hg
  simp only [List.map_cons, cv, cr_pos h1]
  refine va_iast X.1 X.2.1 X.2.2.2.2.2.2.2.1 hW.1 hW.2.1 hS (q - 1) 0 hg rfl a1 hd (fun H1 locs1 hP1 hD1 hS1 => ?_)
  refine kk hL (vok_tl (vok_tl (vok_tl hs))) p e s m args below meth c H1 locs1 Ls ad n0 ad0 X (ww_stI hW h1 h2 hx ?_ hP1 hD1) hS1 hl hn hE
  rw [ce_int hq, a2]
  congr 4
  funext j
  unfold upd stI
  by_cases hj : j = i.toNat <;> simp [hj]
theorem wg_bast {q : Nat} {i x : Int} (hd : Dd I.2.1 pc (.bastore) 1 pc') (hq : kd q = 11) (h0 : 0 ≤ i) (h : i < ln q) (hx01 : x = 0 ∨ x = 1) (kk : Wg G I XX d mc ms Z pc' L st (stI M q i.toNat x) k n) : Wg G I XX d mc ms Z pc L (vI x :: vI i :: vR q :: st) M k n := by
  obtain ⟨hd, rfl⟩ := hd
  intro hL hs p e s m args below meth c H locs Ls ad n0 ad0 X hW hS hl hn hE
  obtain ⟨h1, h2⟩ := kd_ok (by omega) (vok_hd (vok_tl (vok_tl hs)))
  obtain ⟨a1, a2⟩ := o_in (vok_hd (vok_tl hs)) h0 h (ln_le q)
  have hx : R32 x := vok_hd hs
  have hg := wl_get (G := G) (ad := ad) h1 h2
  rw [ce_bool hq] at hg
  simp only [List.map_cons, cv, cr_pos h1]
  refine va_zast X.1 X.2.1 X.2.2.2.2.2.2.2.1 hW.1 hW.2.1 hS (q - 1) 1 hg rfl a1 hd (fun H1 locs1 hP1 hD1 hS1 => ?_)
  refine kk hL (vok_tl (vok_tl (vok_tl hs))) p e s m args below meth c H1 locs1 Ls ad n0 ad0 X (ww_stI hW h1 h2 hx ?_ hP1 hD1) hS1 hl hn hE
  have e1 : vp_nar .boolean (Int32.ofInt x) = Int32.ofInt x := by rcases hx01 with z | z <;> subst z <;> rfl
  rw [ce_bool hq, a2, e1]
  congr 4
  funext j
  unfold upd stI
  by_cases hj : j = i.toNat <;> simp [hj]
theorem wg_aast {q x : Nat} {i : Int} (hd : Dd I.2.1 pc (.aastore) 1 pc') (hq : kd q = 12) (h0 : 0 ≤ i) (h : i < ln q) (hx : kd x = 5) (kk : Wg G I XX d mc ms Z pc' L st (stR M q i.toNat x) k n) : Wg G I XX d mc ms Z pc L (vR x :: vI i :: vR q :: st) M k n := by
  obtain ⟨hd, rfl⟩ := hd
  intro hL hs p e s m args below meth c H locs Ls ad n0 ad0 X hW hS hl hn hE
  obtain ⟨h1, h2⟩ := kd_ok (by omega) (vok_hd (vok_tl (vok_tl hs)))
  obtain ⟨x1, x2⟩ := kd_ok (by omega) (vok_hd hs)
  obtain ⟨a1, a2⟩ := o_in (vok_hd (vok_tl hs)) h0 h (ln_le q)
  have hg := wl_get (G := G) (ad := ad) h1 h2
  have hgx := wl_get (G := G) (ad := ad) x1 x2
  rw [ce_ref hq] at hg
  rw [ce_obj (by omega), hx] at hgx
  simp only [List.map_cons, cv, cr_pos h1, cr_pos x1]
  refine va_astq X.1 X.2.1 X.2.2.2.2.2.2.2.1 hW.1 hW.2.1 hS (q - 1) 2 (x - 1) 5 (r := (RX5, TX5, 4)) hg rfl hgx rfl a1 hd (fun H1 locs1 hP1 hD1 hS1 => ?_)
  refine kk hL (vok_tl (vok_tl (vok_tl hs))) p e s m args below meth c H1 locs1 Ls ad n0 ad0 X (ww_stR hW h1 h2 x2 ?_ hP1 hD1) hS1 hl hn hE
  rw [ce_ref hq, a2]
  congr 7
  funext j
  unfold va_up stR
  have : x ≠ 0 := by omega
  by_cases hj : j = i.toNat <;> simp [hj, this]
theorem wg_alen {q : Nat} (hd : Dd I.2.1 pc (.arraylength) 1 pc') (hq : kd q = 10 ∨ kd q = 12) (kk : Wg G I XX d mc ms Z pc' L (vI (ln q : Int) :: st) M k n) : Wg G I XX d mc ms Z pc L (vR q :: st) M k n := by
  obtain ⟨hd, rfl⟩ := hd
  refine wg_stk (fun hL hs h32 _ => vcI (by have := ln_le q; exact ⟨by omega, by omega⟩) (vok_tl hs)) (fun p e s m args below meth c H locs Ls ad Q X hW hS hh hs z => ?_) kk
  obtain ⟨h1, h2⟩ := kd_ok (by omega) (vok_hd hs)
  have hg := wl_get (G := G) (ad := ad) h1 h2
  simp only [List.map_cons, cv, cr_pos h1]
  simp only [List.map_cons, cv, Int32.ofInt_eq_ofNat] at z
  rcases hq with hq | hq
  · rw [ce_int hq] at hg
    exact va_alen X.1 X.2.1 X.2.2.2.2.2.2.2.1 hW.1 (q - 1) 0 hg rfl rfl hd z
  · rw [ce_ref hq] at hg
    exact va_alen X.1 X.2.1 X.2.2.2.2.2.2.2.1 hW.1 (q - 1) 2 hg rfl rfl hd z
end WM
