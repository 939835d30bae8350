/-! ===== the law (by program) ===== -/
def R_law : String := "RibbonOfLacksLaw"
def lw_P (b : Addr) (xs : List Int32) (args : Array Value) (s : State) : Prop := args = #[.ref b] ∧ s.IntsAt b xs ∧ xs.length ≤ 320 ∧ (Jvm.Cond.and given_1 narrow_1).before args s = true
def lw_Q (_ : Array Value) (s : State) (o : Outcome) (t : State) : Prop := o = .returned (some (.int 1)) ∧ Framed s o t [] 600000 7302250
def lw_Z (below : List Frame) (a : Array Value) (s : State) : State → Prop := fun t => ∃ o, t.status = .running ∧ Ended t below o ∧ lw_Q a s o t
/-- the law's own end, with 1 on the stack, nothing written that was there before, its room as the claim has it -/
theorem lw_ret {p : Program} {l : Launch} {e : Env} {R : Room} {s : State} {m : MethodId} {args : Array Value} {below : List Frame} {meth : Method} {c : Code} (hx : p.tables.exec = Jvm.exec) (hb : c.code = code) (hr : meth.sig.returnType = ret) (hlocks : meth.locks = false) {pc : Nat} {H : Heap} {ls : Array Slot} (hdg : decode code pc = .ok (.ireturn, 1)) : W p l e R s m args below meth c H [] 600000 7302250 (lw_Z below args s) (F0 m pc ls [.int 1]) := by
  intro T hT X
  obtain ⟨fs, hret, hrun, hended, hW, hframe⟩ := X.leave (v := some (.int 1)) (hlocks := hlocks) (fun h => by rw [hr] at h; cases h)
  have hmeth' : T.vm.method? m = some meth := X.method'
  refine ⟨T.setFrames fs, ?_, .returned (some (.int 1)), hrun, hended, rfl, ⟨_, rfl⟩, hW, hframe⟩
  jvm_step X.here [X.here.top, hx, hb, hdg, hmeth', hr, ret, narrow_b1]
  (try refine ⟨rfl, ?_⟩); (try refine ⟨rfl, ?_⟩)
  first | (intro acts; rw [hret _ acts rfl rfl rfl]) | rw [hret _ _ rfl rfl rfl]
  exact Steps.refl _
/-- the script lies where it lay; all that is made is new -/
def XL (G : GG) (b L : Nat) (xs : Nat → Int32) : State → Prop := fun s => va_X b L xs s s.heap ∧ b < s.heap.size ∧ ¬ gA G b ∧ G.2.2.2.2 778 = b ∧ s.heap.size = G.2.2.2.1
def ZL : Nat → (Nat → Nat) → List Frame → Array Value → State → State → Prop := fun _ _ below args s => lw_Z below args s
abbrev Wl (G : GG) (b L : Nat) (xs : Nat → Int32) (pc : Nat) (Lc : List (Option AV)) (st : List AV) (M : MM) : Prop := Wg G mL (XL G b L xs) 21 110 25728 ZL pc Lc st M 110 25728
section LAWR
variable {G : GG} {I : MI} {b L d mc ms : Nat} {xs : Nat → Int32} {Z : Nat → (Nat → Nat) → List Frame → Array Value → State → State → Prop} {pc pc' : Nat} {Lc : List (Option AV)} {st : List AV} {M : MM} {k n : Nat}
theorem wl_len (hL : L ≤ 320) (hd : Dd I.2.1 pc (.arraylength) 1 pc') (kk : Wg G I (XL G b L xs) d mc ms Z pc' Lc (vI (L : Nat) :: st) M k n) : Wg G I (XL G b L xs) d mc ms Z pc Lc (vR 778 :: st) M k n := by
  obtain ⟨hd, rfl⟩ := hd
  refine wg_stk (fun hL2 hs _ _ => vcI ⟨by omega, by omega⟩ (vok_tl hs)) (fun p e s m args below meth c H locs Ls ad Q X hW hS h hs q => ?_) kk
  obtain ⟨x1, x2, x3, x4, x5⟩ := X.2.2.2.2.2.2.2.2.2.2.2
  rw [List.map_cons, cv_far hW (by decide), x4]
  refine va_slen X.1 X.2.1 x1 x2 x3 hS hd ?_
  have e1 : Int32.ofNat L = Int32.ofInt (L : Int) := (Int32.ofInt_eq_ofNat).symm
  rw [e1]
  exact q
theorem wl_ald {i : Int} (hL : L ≤ 320) (hd : Dd I.2.1 pc (.iaload) 1 pc') (h0 : 0 ≤ i) (h1 : i < L) (kk : Wg G I (XL G b L xs) d mc ms Z pc' Lc (vI (xs i.toNat).toInt :: st) M k n) : Wg G I (XL G b L xs) d mc ms Z pc Lc (vI i :: vR 778 :: st) M k n := by
  obtain ⟨hd, rfl⟩ := hd
  refine wg_stk (fun hL2 hs _ _ => vcI (r32_toInt _) (vok_tl (vok_tl hs))) (fun p e s m args below meth c H locs Ls ad Q X hW hS h hs q => ?_) kk
  obtain ⟨x1, x2, x3, x4, x5⟩ := X.2.2.2.2.2.2.2.2.2.2.2
  rw [List.map_cons, List.map_cons, cv_far hW (by decide), x4]
  obtain ⟨a1, a2⟩ := o_in (N := L) (vok_hd hs) h0 h1 (by omega)
  refine va_sld X.1 X.2.1 x1 x2 x3 hS a1 hd ?_
  have e1 : cv ad (vI (xs i.toNat).toInt) = .int (xs (Int32.ofInt i).toNatClampNeg) := by
    rw [a2]
    show Value.int (Int32.ofInt (xs i.toNat).toInt) = _
    rw [Int32.ofInt_toInt]
  rw [List.map_cons, e1] at q
  exact q
theorem wl_end (hd : Dd mL.2.1 pc (.ireturn) 1 pc') (hk : k ≤ 600000 ∧ n ≤ 7302250) : Wg G mL (XL G b L xs) d mc ms ZL pc Lc [vI 1] M k n := by
  obtain ⟨hd, -⟩ := hd
  intro hL hs p e s m args below meth c H locs Ls ad n0 ad0 X hW hS hl hn hE
  obtain ⟨x1, x2, x3, x4, x5⟩ := X.2.2.2.2.2.2.2.2.2.2.2
  refine va_forget (fun q hq => by rw [x5]; exact hS.2.2 q hq) ?_
  refine W.widen (k := 600000) (n := 7302250) hk.1 hk.2 ?_
  exact lw_ret X.1 X.2.1 X.2.2.2.1 X.2.2.2.2.1 hd
theorem kd_lo {p : Nat} (h : kd p = 5 ∨ kd p = 7 ∨ kd p = 2 ∨ kd p = 12) : p < 96 := by
  have hp := (kd_in (p := p) (by omega)).2
  exact (by decide +kernel : ∀ p, p < 111 → (kd p = 5 ∨ kd p = 7 ∨ kd p = 2 ∨ kd p = 12) → p < 96) p (by omega) h
theorem IxS.lo {M' : MM} {A : AbS} (h : IxS M A) (e : ∀ q j, q < 96 → gI M' q j = gI M q j ∧ gR M' q j = gR M q j) : IxS M' A := by
  obtain ⟨⟨⟨hS, hw, hT, hV⟩, hP1, hP2⟩, hX, hne⟩ := h
  have k1 := k7_at (xlaid hS)
  have ln43 : ln (43 + 1) = 8 := rfl
  have ln77 : ln (77 + 1) = 2 := rfl
  have gr : ∀ q j, q < 96 → gR M' q j = gR M q j := fun q j hq => (e q j hq).2
  have gi : ∀ q j, q < 96 → gI M' q j = gI M q j := fun q j hq => (e q j hq).1
  have hS' : ShX M' := by
    obtain ⟨a1, ⟨a2, a3, a4, a5⟩, a6, a7, a8, a9, a10, a11, a12, a13⟩ := hS
    exact ⟨fun j h1 h2 h3 => (gr 1 j (by decide)).trans (a1 j h1 h2 h3), ⟨(gr 2 0 (by decide)).trans a2, (gr 4 0 (by decide)).trans a3, (gr 4 1 (by decide)).trans a4, (gr 94 1 (by decide)).trans a5⟩, fun j h1 h2 => (gr 30 j (by decide)).trans (a6 j h1 h2), fun j h1 h2 => (gr 87 j (by decide)).trans (a7 j h1 h2), fun q hq j h1 h2 => (gr q j (kd_lo (by omega))).trans (a8 q hq j h1 h2), fun q hq j h1 h2 => (gr q j (kd_lo (by omega))).trans (a9 q hq j h1 h2), fun q hq => (gr q 0 (kd_lo (by omega))).trans (a10 q hq), by rw [gr 1 2 (by decide)]; exact a11, by rw [gr 1 3 (by decide)]; exact a12, fun q i hq hi => by rw [gr q i (kd_lo (by omega))]; exact a13 q i hq hi⟩
  refine ⟨⟨⟨hS', ?_, hT.of fun q hq j => gi q j (by unfold Ptb at hq; omega), hV.eq fun r j hr => gi r j (by unfold Pst at hr; omega)⟩, hP1.eq rfl (fun i => gr _ _ (by decide)) fun q j hq => gi q j (by unfold Ppi at hq; omega), hP2.eq rfl (fun i => gr _ _ (by decide)) fun q j hq => gi q j (by unfold Ppi at hq; omega)⟩, hX.of fun q j hq => gi q j (by omega), by rw [gr 1 2 (by decide), gr 1 3 (by decide)]; exact hne⟩
  rw [gr 1 2 (by decide)]
  exact hw.of fun q hq j => gi q j (by unfold Pwo at hq; omega)
end LAWR
section LAWC
variable {G : GG} {b L i : Nat} {xs : Nat → Int32} {M : MM}
set_option maxRecDepth 100000 in
theorem lc_0 (hL : L ≤ 320) (hi : i + 5 ≤ L) (hB : BiS M) (next : ∀ M2, BiS M2 → Wl G b L xs 855 [some (vR 778), some (vR 1), some (vR 96), some (vI (i : Int))] [] M2) : Wl G b L xs 160 [some (vR 778), some (vR 1), some (vR 96), some (vI (i : Int))] [] M := by
  refine wg_aload_n dL_160 rfl (by decide) ?_
  refine wg_aload_n dL_161 rfl (by decide) ?_
  refine wg_iload_n dL_162 rfl ?_
  refine wg_iconst dL_163 ⟨by decide, by decide⟩ ?_
  refine wg_iadd dL_164 ⟨by omega, by omega⟩ ?_
  refine wl_ald hL dL_165 (by omega) (by omega) ?_
  refine wg_callV (I' := mX8_write) (ci := 8) (np := 1) (d' := 20) (q := 1) (as := [vI (xs ((i : Int) + 1).toNat).toInt]) (st := []) dL_166 lk_L_13 ci_X8_write rfl (Nat.le_of_ble_eq_true rfl) rfl rfl (Nat.le_of_ble_eq_true rfl) rfl (Nat.le_refl _) ⟨Nat.le_refl _, Nat.le_refl _⟩ (p0_write hB (xs ((i : Int) + 1).toNat).toInt) (fun v M1 h => ?_)
  obtain ⟨r, rfl, h⟩ := h
  refine wg_aload_n dL_169 rfl (by decide) ?_
  refine wg_aload_n dL_170 rfl (by decide) ?_
  refine wg_iload_n dL_171 rfl ?_
  refine wg_iconst dL_172 ⟨by decide, by decide⟩ ?_
  refine wg_iadd dL_173 ⟨by omega, by omega⟩ ?_
  refine wl_ald hL dL_174 (by omega) (by omega) ?_
  refine wg_callV (I' := mX9_write) (ci := 9) (np := 1) (d' := 20) (q := 96) (as := [vI (xs ((i : Int) + 1).toNat).toInt]) (st := [vI r]) dL_175 lk_L_17 ci_X9_write rfl (Nat.le_of_ble_eq_true rfl) rfl rfl (Nat.le_of_ble_eq_true rfl) rfl (Nat.le_refl _) ⟨Nat.le_refl _, Nat.le_refl _⟩ h (fun v' M2 h2 => ?_)
  obtain ⟨rfl, hB2⟩ := h2
  refine wg_icmp_eq dL_178 rfl (fun _ => ?_) (fun h => absurd rfl h)
  exact next M2 hB2
set_option maxRecDepth 100000 in
theorem lc_1 (hL : L ≤ 320) (hi : i + 5 ≤ L) (hB : BiS M) (next : ∀ M2, BiS M2 → Wl G b L xs 855 [some (vR 778), some (vR 1), some (vR 96), some (vI (i : Int))] [] M2) : Wl G b L xs 183 [some (vR 778), some (vR 1), some (vR 96), some (vI (i : Int))] [] M := by
  refine wg_aload_n dL_183 rfl (by decide) ?_
  refine wg_callV (I' := mX8_wipe) (ci := 8) (np := 0) (d' := 20) (q := 1) (as := []) (st := []) dL_184 lk_L_18 ci_X8_wipe rfl (Nat.le_of_ble_eq_true rfl) rfl rfl (Nat.le_of_ble_eq_true rfl) rfl (Nat.le_refl _) ⟨Nat.le_refl _, Nat.le_refl _⟩ (p1_wipe hB) (fun v M1 h => ?_)
  obtain ⟨r, rfl, h⟩ := h
  refine wg_aload_n dL_187 rfl (by decide) ?_
  refine wg_callV (I' := mX9_wipe) (ci := 9) (np := 0) (d' := 20) (q := 96) (as := []) (st := [vI r]) dL_188 lk_L_22 ci_X9_wipe rfl (Nat.le_of_ble_eq_true rfl) rfl rfl (Nat.le_of_ble_eq_true rfl) rfl (Nat.le_refl _) ⟨Nat.le_refl _, Nat.le_refl _⟩ h (fun v' M2 h2 => ?_)
  obtain ⟨rfl, hB2⟩ := h2
  refine wg_icmp_eq dL_191 rfl (fun _ => ?_) (fun h => absurd rfl h)
  exact next M2 hB2
set_option maxRecDepth 100000 in
theorem lc_2 (hL : L ≤ 320) (hi : i + 5 ≤ L) (hB : BiS M) (next : ∀ M2, BiS M2 → Wl G b L xs 855 [some (vR 778), some (vR 1), some (vR 96), some (vI (i : Int))] [] M2) : Wl G b L xs 196 [some (vR 778), some (vR 1), some (vR 96), some (vI (i : Int))] [] M := by
  refine wg_aload_n dL_196 rfl (by decide) ?_
  refine wg_callV (I' := mX8_fault) (ci := 8) (np := 0) (d' := 20) (q := 1) (as := []) (st := []) dL_197 lk_L_23 ci_X8_fault rfl (Nat.le_of_ble_eq_true rfl) rfl rfl (Nat.le_of_ble_eq_true rfl) rfl (Nat.le_refl _) ⟨Nat.le_refl _, Nat.le_refl _⟩ (p2_fault hB) (fun v M1 h => ?_)
  obtain ⟨r, rfl, h⟩ := h
  refine wg_aload_n dL_200 rfl (by decide) ?_
  refine wg_callV (I' := mX9_fault) (ci := 9) (np := 0) (d' := 20) (q := 96) (as := []) (st := [vI r]) dL_201 lk_L_26 ci_X9_fault rfl (Nat.le_of_ble_eq_true rfl) rfl rfl (Nat.le_of_ble_eq_true rfl) rfl (Nat.le_refl _) ⟨Nat.le_refl _, Nat.le_refl _⟩ h (fun v' M2 h2 => ?_)
  obtain ⟨rfl, hB2⟩ := h2
  refine wg_icmp_eq dL_204 rfl (fun _ => ?_) (fun h => absurd rfl h)
  exact next M2 hB2
set_option maxRecDepth 100000 in
theorem lc_3 (hL : L ≤ 320) (hi : i + 5 ≤ L) (hB : BiS M) (next : ∀ M2, BiS M2 → Wl G b L xs 855 [some (vR 778), some (vR 1), some (vR 96), some (vI (i : Int))] [] M2) : Wl G b L xs 209 [some (vR 778), some (vR 1), some (vR 96), some (vI (i : Int))] [] M := by
  refine wg_aload_n dL_209 rfl (by decide) ?_
  refine wg_callV (I' := mX8_lay) (ci := 8) (np := 0) (d' := 20) (q := 1) (as := []) (st := []) dL_210 lk_L_27 ci_X8_lay rfl (Nat.le_of_ble_eq_true rfl) rfl rfl (Nat.le_of_ble_eq_true rfl) rfl (Nat.le_refl _) ⟨Nat.le_refl _, Nat.le_refl _⟩ (p3_lay hB) (fun v M1 h => ?_)
  obtain ⟨r, rfl, h⟩ := h
  refine wg_aload_n dL_213 rfl (by decide) ?_
  refine wg_callV (I' := mX9_lay) (ci := 9) (np := 0) (d' := 20) (q := 96) (as := []) (st := [vI r]) dL_214 lk_L_30 ci_X9_lay rfl (Nat.le_of_ble_eq_true rfl) rfl rfl (Nat.le_of_ble_eq_true rfl) rfl (Nat.le_refl _) ⟨Nat.le_refl _, Nat.le_refl _⟩ h (fun v' M2 h2 => ?_)
  obtain ⟨rfl, hB2⟩ := h2
  refine wg_icmp_eq dL_217 rfl (fun _ => ?_) (fun h => absurd rfl h)
  exact next M2 hB2
set_option maxRecDepth 100000 in
theorem lc_4 (hL : L ≤ 320) (hi : i + 5 ≤ L) (hB : BiS M) (next : ∀ M2, BiS M2 → Wl G b L xs 855 [some (vR 778), some (vR 1), some (vR 96), some (vI (i : Int))] [] M2) : Wl G b L xs 222 [some (vR 778), some (vR 1), some (vR 96), some (vI (i : Int))] [] M := by
  refine wg_aload_n dL_222 rfl (by decide) ?_
  refine wg_aload_n dL_223 rfl (by decide) ?_
  refine wg_iload_n dL_224 rfl ?_
  refine wg_iconst dL_225 ⟨by decide, by decide⟩ ?_
  refine wg_iadd dL_226 ⟨by omega, by omega⟩ ?_
  refine wl_ald hL dL_227 (by omega) (by omega) ?_
  refine wg_aload_n dL_228 rfl (by decide) ?_
  refine wg_iload_n dL_229 rfl ?_
  refine wg_iconst dL_230 ⟨by decide, by decide⟩ ?_
  refine wg_iadd dL_231 ⟨by omega, by omega⟩ ?_
  refine wl_ald hL dL_232 (by omega) (by omega) ?_
  refine wg_callV (I' := mX8_thing) (ci := 8) (np := 2) (d' := 20) (q := 1) (as := [vI (xs ((i : Int) + 1).toNat).toInt, vI (xs ((i : Int) + 2).toNat).toInt]) (st := []) dL_233 lk_L_31 ci_X8_thing rfl (Nat.le_of_ble_eq_true rfl) rfl rfl (Nat.le_of_ble_eq_true rfl) rfl (Nat.le_refl _) ⟨Nat.le_refl _, Nat.le_refl _⟩ (p4_thing hB (xs ((i : Int) + 1).toNat).toInt (xs ((i : Int) + 2).toNat).toInt) (fun v M1 h => ?_)
  obtain ⟨r, rfl, h⟩ := h
  refine wg_aload_n dL_236 rfl (by decide) ?_
  refine wg_aload_n dL_237 rfl (by decide) ?_
  refine wg_iload_n dL_238 rfl ?_
  refine wg_iconst dL_239 ⟨by decide, by decide⟩ ?_
  refine wg_iadd dL_240 ⟨by omega, by omega⟩ ?_
  refine wl_ald hL dL_241 (by omega) (by omega) ?_
  refine wg_aload_n dL_242 rfl (by decide) ?_
  refine wg_iload_n dL_243 rfl ?_
  refine wg_iconst dL_244 ⟨by decide, by decide⟩ ?_
  refine wg_iadd dL_245 ⟨by omega, by omega⟩ ?_
  refine wl_ald hL dL_246 (by omega) (by omega) ?_
  refine wg_callV (I' := mX9_thing) (ci := 9) (np := 2) (d' := 20) (q := 96) (as := [vI (xs ((i : Int) + 1).toNat).toInt, vI (xs ((i : Int) + 2).toNat).toInt]) (st := [vI r]) dL_247 lk_L_35 ci_X9_thing rfl (Nat.le_of_ble_eq_true rfl) rfl rfl (Nat.le_of_ble_eq_true rfl) rfl (Nat.le_refl _) ⟨Nat.le_refl _, Nat.le_refl _⟩ h (fun v' M2 h2 => ?_)
  obtain ⟨rfl, hB2⟩ := h2
  refine wg_icmp_eq dL_250 rfl (fun _ => ?_) (fun h => absurd rfl h)
  exact next M2 hB2
set_option maxRecDepth 100000 in
theorem lc_5 (hL : L ≤ 320) (hi : i + 5 ≤ L) (hB : BiS M) (next : ∀ M2, BiS M2 → Wl G b L xs 855 [some (vR 778), some (vR 1), some (vR 96), some (vI (i : Int))] [] M2) : Wl G b L xs 255 [some (vR 778), some (vR 1), some (vR 96), some (vI (i : Int))] [] M := by
  refine wg_aload_n dL_255 rfl (by decide) ?_
  refine wg_aload_n dL_256 rfl (by decide) ?_
  refine wg_iload_n dL_257 rfl ?_
  refine wg_iconst dL_258 ⟨by decide, by decide⟩ ?_
  refine wg_iadd dL_259 ⟨by omega, by omega⟩ ?_
  refine wl_ald hL dL_260 (by omega) (by omega) ?_
  refine wg_aload_n dL_261 rfl (by decide) ?_
  refine wg_iload_n dL_262 rfl ?_
  refine wg_iconst dL_263 ⟨by decide, by decide⟩ ?_
  refine wg_iadd dL_264 ⟨by omega, by omega⟩ ?_
  refine wl_ald hL dL_265 (by omega) (by omega) ?_
  refine wg_callV (I' := mX8_person) (ci := 8) (np := 2) (d' := 20) (q := 1) (as := [vI (xs ((i : Int) + 1).toNat).toInt, vI (xs ((i : Int) + 2).toNat).toInt]) (st := []) dL_266 lk_L_36 ci_X8_person rfl (Nat.le_of_ble_eq_true rfl) rfl rfl (Nat.le_of_ble_eq_true rfl) rfl (Nat.le_refl _) ⟨Nat.le_refl _, Nat.le_refl _⟩ (p5_person hB (xs ((i : Int) + 1).toNat).toInt (xs ((i : Int) + 2).toNat).toInt) (fun v M1 h => ?_)
  obtain ⟨r, rfl, h⟩ := h
  refine wg_aload_n dL_269 rfl (by decide) ?_
  refine wg_aload_n dL_270 rfl (by decide) ?_
  refine wg_iload_n dL_271 rfl ?_
  refine wg_iconst dL_272 ⟨by decide, by decide⟩ ?_
  refine wg_iadd dL_273 ⟨by omega, by omega⟩ ?_
  refine wl_ald hL dL_274 (by omega) (by omega) ?_
  refine wg_aload_n dL_275 rfl (by decide) ?_
  refine wg_iload_n dL_276 rfl ?_
  refine wg_iconst dL_277 ⟨by decide, by decide⟩ ?_
  refine wg_iadd dL_278 ⟨by omega, by omega⟩ ?_
  refine wl_ald hL dL_279 (by omega) (by omega) ?_
  refine wg_callV (I' := mX9_person) (ci := 9) (np := 2) (d' := 20) (q := 96) (as := [vI (xs ((i : Int) + 1).toNat).toInt, vI (xs ((i : Int) + 2).toNat).toInt]) (st := [vI r]) dL_280 lk_L_39 ci_X9_person rfl (Nat.le_of_ble_eq_true rfl) rfl rfl (Nat.le_of_ble_eq_true rfl) rfl (Nat.le_refl _) ⟨Nat.le_refl _, Nat.le_refl _⟩ h (fun v' M2 h2 => ?_)
  obtain ⟨rfl, hB2⟩ := h2
  refine wg_icmp_eq dL_283 rfl (fun _ => ?_) (fun h => absurd rfl h)
  exact next M2 hB2
set_option maxRecDepth 100000 in
theorem lc_6 (hL : L ≤ 320) (hi : i + 5 ≤ L) (hB : BiS M) (next : ∀ M2, BiS M2 → Wl G b L xs 855 [some (vR 778), some (vR 1), some (vR 96), some (vI (i : Int))] [] M2) : Wl G b L xs 288 [some (vR 778), some (vR 1), some (vR 96), some (vI (i : Int))] [] M := by
  refine wg_aload_n dL_288 rfl (by decide) ?_
  refine wg_aload_n dL_289 rfl (by decide) ?_
  refine wg_iload_n dL_290 rfl ?_
  refine wg_iconst dL_291 ⟨by decide, by decide⟩ ?_
  refine wg_iadd dL_292 ⟨by omega, by omega⟩ ?_
  refine wl_ald hL dL_293 (by omega) (by omega) ?_
  refine wg_aload_n dL_294 rfl (by decide) ?_
  refine wg_iload_n dL_295 rfl ?_
  refine wg_iconst dL_296 ⟨by decide, by decide⟩ ?_
  refine wg_iadd dL_297 ⟨by omega, by omega⟩ ?_
  refine wl_ald hL dL_298 (by omega) (by omega) ?_
  refine wg_callV (I' := mX8_beast) (ci := 8) (np := 2) (d' := 20) (q := 1) (as := [vI (xs ((i : Int) + 1).toNat).toInt, vI (xs ((i : Int) + 2).toNat).toInt]) (st := []) dL_299 lk_L_40 ci_X8_beast rfl (Nat.le_of_ble_eq_true rfl) rfl rfl (Nat.le_of_ble_eq_true rfl) rfl (Nat.le_refl _) ⟨Nat.le_refl _, Nat.le_refl _⟩ (p6_beast hB (xs ((i : Int) + 1).toNat).toInt (xs ((i : Int) + 2).toNat).toInt) (fun v M1 h => ?_)
  obtain ⟨r, rfl, h⟩ := h
  refine wg_aload_n dL_302 rfl (by decide) ?_
  refine wg_aload_n dL_303 rfl (by decide) ?_
  refine wg_iload_n dL_304 rfl ?_
  refine wg_iconst dL_305 ⟨by decide, by decide⟩ ?_
  refine wg_iadd dL_306 ⟨by omega, by omega⟩ ?_
  refine wl_ald hL dL_307 (by omega) (by omega) ?_
  refine wg_aload_n dL_308 rfl (by decide) ?_
  refine wg_iload_n dL_309 rfl ?_
  refine wg_iconst dL_310 ⟨by decide, by decide⟩ ?_
  refine wg_iadd dL_311 ⟨by omega, by omega⟩ ?_
  refine wl_ald hL dL_312 (by omega) (by omega) ?_
  refine wg_callV (I' := mX9_beast) (ci := 9) (np := 2) (d' := 20) (q := 96) (as := [vI (xs ((i : Int) + 1).toNat).toInt, vI (xs ((i : Int) + 2).toNat).toInt]) (st := [vI r]) dL_313 lk_L_43 ci_X9_beast rfl (Nat.le_of_ble_eq_true rfl) rfl rfl (Nat.le_of_ble_eq_true rfl) rfl (Nat.le_refl _) ⟨Nat.le_refl _, Nat.le_refl _⟩ h (fun v' M2 h2 => ?_)
  obtain ⟨rfl, hB2⟩ := h2
  refine wg_icmp_eq dL_316 rfl (fun _ => ?_) (fun h => absurd rfl h)
  exact next M2 hB2
set_option maxRecDepth 100000 in
theorem lc_7 (hL : L ≤ 320) (hi : i + 5 ≤ L) (hB : BiS M) (next : ∀ M2, BiS M2 → Wl G b L xs 855 [some (vR 778), some (vR 1), some (vR 96), some (vI (i : Int))] [] M2) : Wl G b L xs 321 [some (vR 778), some (vR 1), some (vR 96), some (vI (i : Int))] [] M := by
  refine wg_aload_n dL_321 rfl (by decide) ?_
  refine wg_aload_n dL_322 rfl (by decide) ?_
  refine wg_iload_n dL_323 rfl ?_
  refine wg_iconst dL_324 ⟨by decide, by decide⟩ ?_
  refine wg_iadd dL_325 ⟨by omega, by omega⟩ ?_
  refine wl_ald hL dL_326 (by omega) (by omega) ?_
  refine wg_callV (I' := mX8_strength) (ci := 8) (np := 1) (d' := 20) (q := 1) (as := [vI (xs ((i : Int) + 1).toNat).toInt]) (st := []) dL_327 lk_L_44 ci_X8_strength rfl (Nat.le_of_ble_eq_true rfl) rfl rfl (Nat.le_of_ble_eq_true rfl) rfl (Nat.le_refl _) ⟨Nat.le_refl _, Nat.le_refl _⟩ (p7_strength hB (xs ((i : Int) + 1).toNat).toInt) (fun v M1 h => ?_)
  obtain ⟨r, rfl, h⟩ := h
  refine wg_aload_n dL_330 rfl (by decide) ?_
  refine wg_aload_n dL_331 rfl (by decide) ?_
  refine wg_iload_n dL_332 rfl ?_
  refine wg_iconst dL_333 ⟨by decide, by decide⟩ ?_
  refine wg_iadd dL_334 ⟨by omega, by omega⟩ ?_
  refine wl_ald hL dL_335 (by omega) (by omega) ?_
  refine wg_callV (I' := mX9_strength) (ci := 9) (np := 1) (d' := 20) (q := 96) (as := [vI (xs ((i : Int) + 1).toNat).toInt]) (st := [vI r]) dL_336 lk_L_47 ci_X9_strength rfl (Nat.le_of_ble_eq_true rfl) rfl rfl (Nat.le_of_ble_eq_true rfl) rfl (Nat.le_refl _) ⟨Nat.le_refl _, Nat.le_refl _⟩ h (fun v' M2 h2 => ?_)
  obtain ⟨rfl, hB2⟩ := h2
  refine wg_icmp_eq dL_339 rfl (fun _ => ?_) (fun h => absurd rfl h)
  exact next M2 hB2
set_option maxRecDepth 100000 in
theorem lc_8 (hL : L ≤ 320) (hi : i + 5 ≤ L) (hB : BiS M) (next : ∀ M2, BiS M2 → Wl G b L xs 855 [some (vR 778), some (vR 1), some (vR 96), some (vI (i : Int))] [] M2) : Wl G b L xs 344 [some (vR 778), some (vR 1), some (vR 96), some (vI (i : Int))] [] M := by
  refine wg_aload_n dL_344 rfl (by decide) ?_
  refine wg_aload_n dL_345 rfl (by decide) ?_
  refine wg_iload_n dL_346 rfl ?_
  refine wg_iconst dL_347 ⟨by decide, by decide⟩ ?_
  refine wg_iadd dL_348 ⟨by omega, by omega⟩ ?_
  refine wl_ald hL dL_349 (by omega) (by omega) ?_
  refine wg_callV (I' := mX8_follows) (ci := 8) (np := 1) (d' := 20) (q := 1) (as := [vI (xs ((i : Int) + 1).toNat).toInt]) (st := []) dL_350 lk_L_48 ci_X8_follows rfl (Nat.le_of_ble_eq_true rfl) rfl rfl (Nat.le_of_ble_eq_true rfl) rfl (Nat.le_refl _) ⟨Nat.le_refl _, Nat.le_refl _⟩ (p8_follows hB (xs ((i : Int) + 1).toNat).toInt) (fun v M1 h => ?_)
  obtain ⟨r, rfl, h⟩ := h
  refine wg_aload_n dL_353 rfl (by decide) ?_
  refine wg_aload_n dL_354 rfl (by decide) ?_
  refine wg_iload_n dL_355 rfl ?_
  refine wg_iconst dL_356 ⟨by decide, by decide⟩ ?_
  refine wg_iadd dL_357 ⟨by omega, by omega⟩ ?_
  refine wl_ald hL dL_358 (by omega) (by omega) ?_
  refine wg_callV (I' := mX9_follows) (ci := 9) (np := 1) (d' := 20) (q := 96) (as := [vI (xs ((i : Int) + 1).toNat).toInt]) (st := [vI r]) dL_359 lk_L_51 ci_X9_follows rfl (Nat.le_of_ble_eq_true rfl) rfl rfl (Nat.le_of_ble_eq_true rfl) rfl (Nat.le_refl _) ⟨Nat.le_refl _, Nat.le_refl _⟩ h (fun v' M2 h2 => ?_)
  obtain ⟨rfl, hB2⟩ := h2
  refine wg_icmp_eq dL_362 rfl (fun _ => ?_) (fun h => absurd rfl h)
  exact next M2 hB2
set_option maxRecDepth 100000 in
theorem lc_9 (hL : L ≤ 320) (hi : i + 5 ≤ L) (hB : BiS M) (next : ∀ M2, BiS M2 → Wl G b L xs 855 [some (vR 778), some (vR 1), some (vR 96), some (vI (i : Int))] [] M2) : Wl G b L xs 367 [some (vR 778), some (vR 1), some (vR 96), some (vI (i : Int))] [] M := by
  refine wg_aload_n dL_367 rfl (by decide) ?_
  refine wg_callV (I' := mX8_missed) (ci := 8) (np := 0) (d' := 20) (q := 1) (as := []) (st := []) dL_368 lk_L_52 ci_X8_missed rfl (Nat.le_of_ble_eq_true rfl) rfl rfl (Nat.le_of_ble_eq_true rfl) rfl (Nat.le_refl _) ⟨Nat.le_refl _, Nat.le_refl _⟩ (p9_missed hB) (fun v M1 h => ?_)
  obtain ⟨r, rfl, h⟩ := h
  refine wg_aload_n dL_371 rfl (by decide) ?_
  refine wg_callV (I' := mX9_missed) (ci := 9) (np := 0) (d' := 20) (q := 96) (as := []) (st := [vI r]) dL_372 lk_L_55 ci_X9_missed rfl (Nat.le_of_ble_eq_true rfl) rfl rfl (Nat.le_of_ble_eq_true rfl) rfl (Nat.le_refl _) ⟨Nat.le_refl _, Nat.le_refl _⟩ h (fun v' M2 h2 => ?_)
  obtain ⟨rfl, hB2⟩ := h2
  refine wg_icmp_eq dL_375 rfl (fun _ => ?_) (fun h => absurd rfl h)
  exact next M2 hB2
set_option maxRecDepth 100000 in
theorem lc_10 (hL : L ≤ 320) (hi : i + 5 ≤ L) (hB : BiS M) (next : ∀ M2, BiS M2 → Wl G b L xs 855 [some (vR 778), some (vR 1), some (vR 96), some (vI (i : Int))] [] M2) : Wl G b L xs 380 [some (vR 778), some (vR 1), some (vR 96), some (vI (i : Int))] [] M := by
  refine wg_aload_n dL_380 rfl (by decide) ?_
  refine wg_aload_n dL_381 rfl (by decide) ?_
  refine wg_iload_n dL_382 rfl ?_
  refine wg_iconst dL_383 ⟨by decide, by decide⟩ ?_
  refine wg_iadd dL_384 ⟨by omega, by omega⟩ ?_
  refine wl_ald hL dL_385 (by omega) (by omega) ?_
  refine wg_aload_n dL_386 rfl (by decide) ?_
  refine wg_iload_n dL_387 rfl ?_
  refine wg_iconst dL_388 ⟨by decide, by decide⟩ ?_
  refine wg_iadd dL_389 ⟨by omega, by omega⟩ ?_
  refine wl_ald hL dL_390 (by omega) (by omega) ?_
  refine wg_callV (I' := mX8_bind) (ci := 8) (np := 2) (d' := 20) (q := 1) (as := [vI (xs ((i : Int) + 1).toNat).toInt, vI (xs ((i : Int) + 2).toNat).toInt]) (st := []) dL_391 lk_L_56 ci_X8_bind rfl (Nat.le_of_ble_eq_true rfl) rfl rfl (Nat.le_of_ble_eq_true rfl) rfl (Nat.le_refl _) ⟨Nat.le_refl _, Nat.le_refl _⟩ (p10_bind hB (xs ((i : Int) + 1).toNat).toInt (xs ((i : Int) + 2).toNat).toInt) (fun v M1 h => ?_)
  obtain ⟨r, rfl, h⟩ := h
  refine wg_aload_n dL_394 rfl (by decide) ?_
  refine wg_aload_n dL_395 rfl (by decide) ?_
  refine wg_iload_n dL_396 rfl ?_
  refine wg_iconst dL_397 ⟨by decide, by decide⟩ ?_
  refine wg_iadd dL_398 ⟨by omega, by omega⟩ ?_
  refine wl_ald hL dL_399 (by omega) (by omega) ?_
  refine wg_aload_n dL_400 rfl (by decide) ?_
  refine wg_iload_n dL_401 rfl ?_
  refine wg_iconst dL_402 ⟨by decide, by decide⟩ ?_
  refine wg_iadd dL_403 ⟨by omega, by omega⟩ ?_
  refine wl_ald hL dL_404 (by omega) (by omega) ?_
  refine wg_callV (I' := mX9_bind) (ci := 9) (np := 2) (d' := 20) (q := 96) (as := [vI (xs ((i : Int) + 1).toNat).toInt, vI (xs ((i : Int) + 2).toNat).toInt]) (st := [vI r]) dL_405 lk_L_59 ci_X9_bind rfl (Nat.le_of_ble_eq_true rfl) rfl rfl (Nat.le_of_ble_eq_true rfl) rfl (Nat.le_refl _) ⟨Nat.le_refl _, Nat.le_refl _⟩ h (fun v' M2 h2 => ?_)
  obtain ⟨rfl, hB2⟩ := h2
  refine wg_icmp_eq dL_408 rfl (fun _ => ?_) (fun h => absurd rfl h)
  exact next M2 hB2
set_option maxRecDepth 100000 in
theorem lc_11 (hL : L ≤ 320) (hi : i + 5 ≤ L) (hB : BiS M) (next : ∀ M2, BiS M2 → Wl G b L xs 855 [some (vR 778), some (vR 1), some (vR 96), some (vI (i : Int))] [] M2) : Wl G b L xs 413 [some (vR 778), some (vR 1), some (vR 96), some (vI (i : Int))] [] M := by
  refine wg_aload_n dL_413 rfl (by decide) ?_
  refine wg_aload_n dL_414 rfl (by decide) ?_
  refine wg_iload_n dL_415 rfl ?_
  refine wg_iconst dL_416 ⟨by decide, by decide⟩ ?_
  refine wg_iadd dL_417 ⟨by omega, by omega⟩ ?_
  refine wl_ald hL dL_418 (by omega) (by omega) ?_
  refine wg_callV (I' := mX8_loosen) (ci := 8) (np := 1) (d' := 20) (q := 1) (as := [vI (xs ((i : Int) + 1).toNat).toInt]) (st := []) dL_419 lk_L_60 ci_X8_loosen rfl (Nat.le_of_ble_eq_true rfl) rfl rfl (Nat.le_of_ble_eq_true rfl) rfl (Nat.le_refl _) ⟨Nat.le_refl _, Nat.le_refl _⟩ (p11_loosen hB (xs ((i : Int) + 1).toNat).toInt) (fun v M1 h => ?_)
  obtain ⟨r, rfl, h⟩ := h
  refine wg_aload_n dL_422 rfl (by decide) ?_
  refine wg_aload_n dL_423 rfl (by decide) ?_
  refine wg_iload_n dL_424 rfl ?_
  refine wg_iconst dL_425 ⟨by decide, by decide⟩ ?_
  refine wg_iadd dL_426 ⟨by omega, by omega⟩ ?_
  refine wl_ald hL dL_427 (by omega) (by omega) ?_
  refine wg_callV (I' := mX9_loosen) (ci := 9) (np := 1) (d' := 20) (q := 96) (as := [vI (xs ((i : Int) + 1).toNat).toInt]) (st := [vI r]) dL_428 lk_L_63 ci_X9_loosen rfl (Nat.le_of_ble_eq_true rfl) rfl rfl (Nat.le_of_ble_eq_true rfl) rfl (Nat.le_refl _) ⟨Nat.le_refl _, Nat.le_refl _⟩ h (fun v' M2 h2 => ?_)
  obtain ⟨rfl, hB2⟩ := h2
  refine wg_icmp_eq dL_431 rfl (fun _ => ?_) (fun h => absurd rfl h)
  exact next M2 hB2
set_option maxRecDepth 100000 in
theorem lc_12 (hL : L ≤ 320) (hi : i + 5 ≤ L) (hB : BiS M) (next : ∀ M2, BiS M2 → Wl G b L xs 855 [some (vR 778), some (vR 1), some (vR 96), some (vI (i : Int))] [] M2) : Wl G b L xs 436 [some (vR 778), some (vR 1), some (vR 96), some (vI (i : Int))] [] M := by
  refine wg_aload_n dL_436 rfl (by decide) ?_
  refine wg_aload_n dL_437 rfl (by decide) ?_
  refine wg_iload_n dL_438 rfl ?_
  refine wg_iconst dL_439 ⟨by decide, by decide⟩ ?_
  refine wg_iadd dL_440 ⟨by omega, by omega⟩ ?_
  refine wl_ald hL dL_441 (by omega) (by omega) ?_
  refine wg_callV (I' := mX8_days) (ci := 8) (np := 1) (d' := 20) (q := 1) (as := [vI (xs ((i : Int) + 1).toNat).toInt]) (st := []) dL_442 lk_L_64 ci_X8_days rfl (Nat.le_of_ble_eq_true rfl) rfl rfl (Nat.le_of_ble_eq_true rfl) rfl (Nat.le_refl _) ⟨Nat.le_refl _, Nat.le_refl _⟩ (p12_days hB (xs ((i : Int) + 1).toNat).toInt) (fun v M1 h => ?_)
  obtain ⟨r, rfl, h⟩ := h
  refine wg_aload_n dL_445 rfl (by decide) ?_
  refine wg_aload_n dL_446 rfl (by decide) ?_
  refine wg_iload_n dL_447 rfl ?_
  refine wg_iconst dL_448 ⟨by decide, by decide⟩ ?_
  refine wg_iadd dL_449 ⟨by omega, by omega⟩ ?_
  refine wl_ald hL dL_450 (by omega) (by omega) ?_
  refine wg_callV (I' := mX9_days) (ci := 9) (np := 1) (d' := 20) (q := 96) (as := [vI (xs ((i : Int) + 1).toNat).toInt]) (st := [vI r]) dL_451 lk_L_67 ci_X9_days rfl (Nat.le_of_ble_eq_true rfl) rfl rfl (Nat.le_of_ble_eq_true rfl) rfl (Nat.le_refl _) ⟨Nat.le_refl _, Nat.le_refl _⟩ h (fun v' M2 h2 => ?_)
  obtain ⟨rfl, hB2⟩ := h2
  refine wg_icmp_eq dL_454 rfl (fun _ => ?_) (fun h => absurd rfl h)
  exact next M2 hB2
set_option maxRecDepth 100000 in
theorem lc_13 (hL : L ≤ 320) (hi : i + 5 ≤ L) (hB : BiS M) (next : ∀ M2, BiS M2 → Wl G b L xs 855 [some (vR 778), some (vR 1), some (vR 96), some (vI (i : Int))] [] M2) : Wl G b L xs 459 [some (vR 778), some (vR 1), some (vR 96), some (vI (i : Int))] [] M := by
  refine wg_aload_n dL_459 rfl (by decide) ?_
  refine wg_callV (I' := mX8_undo) (ci := 8) (np := 0) (d' := 20) (q := 1) (as := []) (st := []) dL_460 lk_L_68 ci_X8_undo rfl (Nat.le_of_ble_eq_true rfl) rfl rfl (Nat.le_of_ble_eq_true rfl) rfl (Nat.le_refl _) ⟨Nat.le_refl _, Nat.le_refl _⟩ (p13_undo hB) (fun v M1 h => ?_)
  obtain ⟨r, rfl, h⟩ := h
  refine wg_aload_n dL_463 rfl (by decide) ?_
  refine wg_callV (I' := mX9_undo) (ci := 9) (np := 0) (d' := 20) (q := 96) (as := []) (st := [vI r]) dL_464 lk_L_71 ci_X9_undo rfl (Nat.le_of_ble_eq_true rfl) rfl rfl (Nat.le_of_ble_eq_true rfl) rfl (Nat.le_refl _) ⟨Nat.le_refl _, Nat.le_refl _⟩ h (fun v' M2 h2 => ?_)
  obtain ⟨rfl, hB2⟩ := h2
  refine wg_icmp_eq dL_467 rfl (fun _ => ?_) (fun h => absurd rfl h)
  exact next M2 hB2
set_option maxRecDepth 100000 in
theorem lc_14 (hL : L ≤ 320) (hi : i + 5 ≤ L) (hB : BiS M) (next : ∀ M2, BiS M2 → Wl G b L xs 855 [some (vR 778), some (vR 1), some (vR 96), some (vI (i : Int))] [] M2) : Wl G b L xs 472 [some (vR 778), some (vR 1), some (vR 96), some (vI (i : Int))] [] M := by
  refine wg_aload_n dL_472 rfl (by decide) ?_
  refine wg_aload_n dL_473 rfl (by decide) ?_
  refine wg_iload_n dL_474 rfl ?_
  refine wg_iconst dL_475 ⟨by decide, by decide⟩ ?_
  refine wg_iadd dL_476 ⟨by omega, by omega⟩ ?_
  refine wl_ald hL dL_477 (by omega) (by omega) ?_
  refine wg_callV (I' := mX8_cost) (ci := 8) (np := 1) (d' := 20) (q := 1) (as := [vI (xs ((i : Int) + 1).toNat).toInt]) (st := []) dL_478 lk_L_72 ci_X8_cost rfl (Nat.le_of_ble_eq_true rfl) rfl rfl (Nat.le_of_ble_eq_true rfl) rfl (Nat.le_refl _) ⟨Nat.le_refl _, Nat.le_refl _⟩ (p14_cost hB (xs ((i : Int) + 1).toNat).toInt) (fun v M1 h => ?_)
  obtain ⟨r, rfl, h⟩ := h
  refine wg_aload_n dL_481 rfl (by decide) ?_
  refine wg_aload_n dL_482 rfl (by decide) ?_
  refine wg_iload_n dL_483 rfl ?_
  refine wg_iconst dL_484 ⟨by decide, by decide⟩ ?_
  refine wg_iadd dL_485 ⟨by omega, by omega⟩ ?_
  refine wl_ald hL dL_486 (by omega) (by omega) ?_
  refine wg_callV (I' := mX9_cost) (ci := 9) (np := 1) (d' := 20) (q := 96) (as := [vI (xs ((i : Int) + 1).toNat).toInt]) (st := [vI r]) dL_487 lk_L_75 ci_X9_cost rfl (Nat.le_of_ble_eq_true rfl) rfl rfl (Nat.le_of_ble_eq_true rfl) rfl (Nat.le_refl _) ⟨Nat.le_refl _, Nat.le_refl _⟩ h (fun v' M2 h2 => ?_)
  obtain ⟨rfl, hB2⟩ := h2
  refine wg_icmp_eq dL_490 rfl (fun _ => ?_) (fun h => absurd rfl h)
  exact next M2 hB2
set_option maxRecDepth 100000 in
theorem lc_15 (hL : L ≤ 320) (hi : i + 5 ≤ L) (hB : BiS M) (next : ∀ M2, BiS M2 → Wl G b L xs 855 [some (vR 778), some (vR 1), some (vR 96), some (vI (i : Int))] [] M2) : Wl G b L xs 495 [some (vR 778), some (vR 1), some (vR 96), some (vI (i : Int))] [] M := by
  refine wg_aload_n dL_495 rfl (by decide) ?_
  refine wg_aload_n dL_496 rfl (by decide) ?_
  refine wg_iload_n dL_497 rfl ?_
  refine wg_iconst dL_498 ⟨by decide, by decide⟩ ?_
  refine wg_iadd dL_499 ⟨by omega, by omega⟩ ?_
  refine wl_ald hL dL_500 (by omega) (by omega) ?_
  refine wg_aload_n dL_501 rfl (by decide) ?_
  refine wg_iload_n dL_502 rfl ?_
  refine wg_iconst dL_503 ⟨by decide, by decide⟩ ?_
  refine wg_iadd dL_504 ⟨by omega, by omega⟩ ?_
  refine wl_ald hL dL_505 (by omega) (by omega) ?_
  refine wg_callV (I' := mX8_least) (ci := 8) (np := 2) (d' := 20) (q := 1) (as := [vI (xs ((i : Int) + 1).toNat).toInt, vI (xs ((i : Int) + 2).toNat).toInt]) (st := []) dL_506 lk_L_76 ci_X8_least rfl (Nat.le_of_ble_eq_true rfl) rfl rfl (Nat.le_of_ble_eq_true rfl) rfl (Nat.le_refl _) ⟨Nat.le_refl _, Nat.le_refl _⟩ (p15_least hB (xs ((i : Int) + 1).toNat).toInt (xs ((i : Int) + 2).toNat).toInt) (fun v M1 h => ?_)
  obtain ⟨r, rfl, h⟩ := h
  refine wg_aload_n dL_509 rfl (by decide) ?_
  refine wg_aload_n dL_510 rfl (by decide) ?_
  refine wg_iload_n dL_511 rfl ?_
  refine wg_iconst dL_512 ⟨by decide, by decide⟩ ?_
  refine wg_iadd dL_513 ⟨by omega, by omega⟩ ?_
  refine wl_ald hL dL_514 (by omega) (by omega) ?_
  refine wg_aload_n dL_515 rfl (by decide) ?_
  refine wg_iload_n dL_516 rfl ?_
  refine wg_iconst dL_517 ⟨by decide, by decide⟩ ?_
  refine wg_iadd dL_518 ⟨by omega, by omega⟩ ?_
  refine wl_ald hL dL_519 (by omega) (by omega) ?_
  refine wg_callV (I' := mX9_least) (ci := 9) (np := 2) (d' := 20) (q := 96) (as := [vI (xs ((i : Int) + 1).toNat).toInt, vI (xs ((i : Int) + 2).toNat).toInt]) (st := [vI r]) dL_520 lk_L_79 ci_X9_least rfl (Nat.le_of_ble_eq_true rfl) rfl rfl (Nat.le_of_ble_eq_true rfl) rfl (Nat.le_refl _) ⟨Nat.le_refl _, Nat.le_refl _⟩ h (fun v' M2 h2 => ?_)
  obtain ⟨rfl, hB2⟩ := h2
  refine wg_icmp_eq dL_523 rfl (fun _ => ?_) (fun h => absurd rfl h)
  exact next M2 hB2
set_option maxRecDepth 100000 in
theorem lc_16 (hL : L ≤ 320) (hi : i + 5 ≤ L) (hB : BiS M) (next : ∀ M2, BiS M2 → Wl G b L xs 855 [some (vR 778), some (vR 1), some (vR 96), some (vI (i : Int))] [] M2) : Wl G b L xs 528 [some (vR 778), some (vR 1), some (vR 96), some (vI (i : Int))] [] M := by
  refine wg_aload_n dL_528 rfl (by decide) ?_
  refine wg_aload_n dL_529 rfl (by decide) ?_
  refine wg_iload_n dL_530 rfl ?_
  refine wg_iconst dL_531 ⟨by decide, by decide⟩ ?_
  refine wg_iadd dL_532 ⟨by omega, by omega⟩ ?_
  refine wl_ald hL dL_533 (by omega) (by omega) ?_
  refine wg_callV (I' := mX8_all) (ci := 8) (np := 1) (d' := 20) (q := 1) (as := [vI (xs ((i : Int) + 1).toNat).toInt]) (st := []) dL_534 lk_L_80 ci_X8_all rfl (Nat.le_of_ble_eq_true rfl) rfl rfl (Nat.le_of_ble_eq_true rfl) rfl (Nat.le_refl _) ⟨Nat.le_refl _, Nat.le_refl _⟩ (p16_all hB (xs ((i : Int) + 1).toNat).toInt) (fun v M1 h => ?_)
  obtain ⟨r, rfl, h⟩ := h
  refine wg_aload_n dL_537 rfl (by decide) ?_
  refine wg_aload_n dL_538 rfl (by decide) ?_
  refine wg_iload_n dL_539 rfl ?_
  refine wg_iconst dL_540 ⟨by decide, by decide⟩ ?_
  refine wg_iadd dL_541 ⟨by omega, by omega⟩ ?_
  refine wl_ald hL dL_542 (by omega) (by omega) ?_
  refine wg_callV (I' := mX9_all) (ci := 9) (np := 1) (d' := 20) (q := 96) (as := [vI (xs ((i : Int) + 1).toNat).toInt]) (st := [vI r]) dL_543 lk_L_83 ci_X9_all rfl (Nat.le_of_ble_eq_true rfl) rfl rfl (Nat.le_of_ble_eq_true rfl) rfl (Nat.le_refl _) ⟨Nat.le_refl _, Nat.le_refl _⟩ h (fun v' M2 h2 => ?_)
  obtain ⟨rfl, hB2⟩ := h2
  refine wg_icmp_eq dL_546 rfl (fun _ => ?_) (fun h => absurd rfl h)
  exact next M2 hB2
set_option maxRecDepth 100000 in
theorem lc_17 (hL : L ≤ 320) (hi : i + 5 ≤ L) (hB : BiS M) (next : ∀ M2, BiS M2 → Wl G b L xs 855 [some (vR 778), some (vR 1), some (vR 96), some (vI (i : Int))] [] M2) : Wl G b L xs 551 [some (vR 778), some (vR 1), some (vR 96), some (vI (i : Int))] [] M := by
  refine wg_aload_n dL_551 rfl (by decide) ?_
  refine wg_aload_n dL_552 rfl (by decide) ?_
  refine wg_iload_n dL_553 rfl ?_
  refine wg_iconst dL_554 ⟨by decide, by decide⟩ ?_
  refine wg_iadd dL_555 ⟨by omega, by omega⟩ ?_
  refine wl_ald hL dL_556 (by omega) (by omega) ?_
  refine wg_callV (I' := mX8_more) (ci := 8) (np := 1) (d' := 20) (q := 1) (as := [vI (xs ((i : Int) + 1).toNat).toInt]) (st := []) dL_557 lk_L_84 ci_X8_more rfl (Nat.le_of_ble_eq_true rfl) rfl rfl (Nat.le_of_ble_eq_true rfl) rfl (Nat.le_refl _) ⟨Nat.le_refl _, Nat.le_refl _⟩ (p17_more hB (xs ((i : Int) + 1).toNat).toInt) (fun v M1 h => ?_)
  obtain ⟨r, rfl, h⟩ := h
  refine wg_aload_n dL_560 rfl (by decide) ?_
  refine wg_aload_n dL_561 rfl (by decide) ?_
  refine wg_iload_n dL_562 rfl ?_
  refine wg_iconst dL_563 ⟨by decide, by decide⟩ ?_
  refine wg_iadd dL_564 ⟨by omega, by omega⟩ ?_
  refine wl_ald hL dL_565 (by omega) (by omega) ?_
  refine wg_callV (I' := mX9_more) (ci := 9) (np := 1) (d' := 20) (q := 96) (as := [vI (xs ((i : Int) + 1).toNat).toInt]) (st := [vI r]) dL_566 lk_L_87 ci_X9_more rfl (Nat.le_of_ble_eq_true rfl) rfl rfl (Nat.le_of_ble_eq_true rfl) rfl (Nat.le_refl _) ⟨Nat.le_refl _, Nat.le_refl _⟩ h (fun v' M2 h2 => ?_)
  obtain ⟨rfl, hB2⟩ := h2
  refine wg_icmp_eq dL_569 rfl (fun _ => ?_) (fun h => absurd rfl h)
  exact next M2 hB2
set_option maxRecDepth 100000 in
theorem lc_18 (hL : L ≤ 320) (hi : i + 5 ≤ L) (hB : BiS M) (next : ∀ M2, BiS M2 → Wl G b L xs 855 [some (vR 778), some (vR 1), some (vR 96), some (vI (i : Int))] [] M2) : Wl G b L xs 574 [some (vR 778), some (vR 1), some (vR 96), some (vI (i : Int))] [] M := by
  refine wg_aload_n dL_574 rfl (by decide) ?_
  refine wg_aload_n dL_575 rfl (by decide) ?_
  refine wg_iload_n dL_576 rfl ?_
  refine wg_iconst dL_577 ⟨by decide, by decide⟩ ?_
  refine wg_iadd dL_578 ⟨by omega, by omega⟩ ?_
  refine wl_ald hL dL_579 (by omega) (by omega) ?_
  refine wg_callV (I' := mX8_worst) (ci := 8) (np := 1) (d' := 20) (q := 1) (as := [vI (xs ((i : Int) + 1).toNat).toInt]) (st := []) dL_580 lk_L_88 ci_X8_worst rfl (Nat.le_of_ble_eq_true rfl) rfl rfl (Nat.le_of_ble_eq_true rfl) rfl (Nat.le_refl _) ⟨Nat.le_refl _, Nat.le_refl _⟩ (p18_worst hB (xs ((i : Int) + 1).toNat).toInt) (fun v M1 h => ?_)
  obtain ⟨r, rfl, h⟩ := h
  refine wg_aload_n dL_583 rfl (by decide) ?_
  refine wg_aload_n dL_584 rfl (by decide) ?_
  refine wg_iload_n dL_585 rfl ?_
  refine wg_iconst dL_586 ⟨by decide, by decide⟩ ?_
  refine wg_iadd dL_587 ⟨by omega, by omega⟩ ?_
  refine wl_ald hL dL_588 (by omega) (by omega) ?_
  refine wg_callV (I' := mX9_worst) (ci := 9) (np := 1) (d' := 20) (q := 96) (as := [vI (xs ((i : Int) + 1).toNat).toInt]) (st := [vI r]) dL_589 lk_L_91 ci_X9_worst rfl (Nat.le_of_ble_eq_true rfl) rfl rfl (Nat.le_of_ble_eq_true rfl) rfl (Nat.le_refl _) ⟨Nat.le_refl _, Nat.le_refl _⟩ h (fun v' M2 h2 => ?_)
  obtain ⟨rfl, hB2⟩ := h2
  refine wg_icmp_eq dL_592 rfl (fun _ => ?_) (fun h => absurd rfl h)
  exact next M2 hB2
set_option maxRecDepth 100000 in
theorem lc_19 (hL : L ≤ 320) (hi : i + 5 ≤ L) (hB : BiS M) (next : ∀ M2, BiS M2 → Wl G b L xs 855 [some (vR 778), some (vR 1), some (vR 96), some (vI (i : Int))] [] M2) : Wl G b L xs 597 [some (vR 778), some (vR 1), some (vR 96), some (vI (i : Int))] [] M := by
  refine wg_aload_n dL_597 rfl (by decide) ?_
  refine wg_aload_n dL_598 rfl (by decide) ?_
  refine wg_iload_n dL_599 rfl ?_
  refine wg_iconst dL_600 ⟨by decide, by decide⟩ ?_
  refine wg_iadd dL_601 ⟨by omega, by omega⟩ ?_
  refine wl_ald hL dL_602 (by omega) (by omega) ?_
  refine wg_callV (I' := mX8_back) (ci := 8) (np := 1) (d' := 20) (q := 1) (as := [vI (xs ((i : Int) + 1).toNat).toInt]) (st := []) dL_603 lk_L_92 ci_X8_back rfl (Nat.le_of_ble_eq_true rfl) rfl rfl (Nat.le_of_ble_eq_true rfl) rfl (Nat.le_refl _) ⟨Nat.le_refl _, Nat.le_refl _⟩ (p19_back hB (xs ((i : Int) + 1).toNat).toInt) (fun v M1 h => ?_)
  obtain ⟨r, rfl, h⟩ := h
  refine wg_aload_n dL_606 rfl (by decide) ?_
  refine wg_aload_n dL_607 rfl (by decide) ?_
  refine wg_iload_n dL_608 rfl ?_
  refine wg_iconst dL_609 ⟨by decide, by decide⟩ ?_
  refine wg_iadd dL_610 ⟨by omega, by omega⟩ ?_
  refine wl_ald hL dL_611 (by omega) (by omega) ?_
  refine wg_callV (I' := mX9_back) (ci := 9) (np := 1) (d' := 20) (q := 96) (as := [vI (xs ((i : Int) + 1).toNat).toInt]) (st := [vI r]) dL_612 lk_L_95 ci_X9_back rfl (Nat.le_of_ble_eq_true rfl) rfl rfl (Nat.le_of_ble_eq_true rfl) rfl (Nat.le_refl _) ⟨Nat.le_refl _, Nat.le_refl _⟩ h (fun v' M2 h2 => ?_)
  obtain ⟨rfl, hB2⟩ := h2
  refine wg_icmp_eq dL_615 rfl (fun _ => ?_) (fun h => absurd rfl h)
  exact next M2 hB2
set_option maxRecDepth 100000 in
theorem lc_20 (hL : L ≤ 320) (hi : i + 5 ≤ L) (hB : BiS M) (next : ∀ M2, BiS M2 → Wl G b L xs 855 [some (vR 778), some (vR 1), some (vR 96), some (vI (i : Int))] [] M2) : Wl G b L xs 620 [some (vR 778), some (vR 1), some (vR 96), some (vI (i : Int))] [] M := by
  refine wg_aload_n dL_620 rfl (by decide) ?_
  refine wg_aload_n dL_621 rfl (by decide) ?_
  refine wg_iload_n dL_622 rfl ?_
  refine wg_iconst dL_623 ⟨by decide, by decide⟩ ?_
  refine wg_iadd dL_624 ⟨by omega, by omega⟩ ?_
  refine wl_ald hL dL_625 (by omega) (by omega) ?_
  refine wg_aload_n dL_626 rfl (by decide) ?_
  refine wg_iload_n dL_627 rfl ?_
  refine wg_iconst dL_628 ⟨by decide, by decide⟩ ?_
  refine wg_iadd dL_629 ⟨by omega, by omega⟩ ?_
  refine wl_ald hL dL_630 (by omega) (by omega) ?_
  refine wg_aload_n dL_631 rfl (by decide) ?_
  refine wg_iload_n dL_632 rfl ?_
  refine wg_iconst dL_633 ⟨by decide, by decide⟩ ?_
  refine wg_iadd dL_634 ⟨by omega, by omega⟩ ?_
  refine wl_ald hL dL_635 (by omega) (by omega) ?_
  refine wg_callV (I' := mX8_missing) (ci := 8) (np := 3) (d' := 20) (q := 1) (as := [vI (xs ((i : Int) + 1).toNat).toInt, vI (xs ((i : Int) + 2).toNat).toInt, vI (xs ((i : Int) + 3).toNat).toInt]) (st := []) dL_636 lk_L_96 ci_X8_missing rfl (Nat.le_of_ble_eq_true rfl) rfl rfl (Nat.le_of_ble_eq_true rfl) rfl (Nat.le_refl _) ⟨Nat.le_refl _, Nat.le_refl _⟩ (p20_missing hB (xs ((i : Int) + 1).toNat).toInt (xs ((i : Int) + 2).toNat).toInt (xs ((i : Int) + 3).toNat).toInt) (fun v M1 h => ?_)
  obtain ⟨r, rfl, h⟩ := h
  refine wg_aload_n dL_639 rfl (by decide) ?_
  refine wg_aload_n dL_640 rfl (by decide) ?_
  refine wg_iload_n dL_641 rfl ?_
  refine wg_iconst dL_642 ⟨by decide, by decide⟩ ?_
  refine wg_iadd dL_643 ⟨by omega, by omega⟩ ?_
  refine wl_ald hL dL_644 (by omega) (by omega) ?_
  refine wg_aload_n dL_645 rfl (by decide) ?_
  refine wg_iload_n dL_646 rfl ?_
  refine wg_iconst dL_647 ⟨by decide, by decide⟩ ?_
  refine wg_iadd dL_648 ⟨by omega, by omega⟩ ?_
  refine wl_ald hL dL_649 (by omega) (by omega) ?_
  refine wg_aload_n dL_650 rfl (by decide) ?_
  refine wg_iload_n dL_651 rfl ?_
  refine wg_iconst dL_652 ⟨by decide, by decide⟩ ?_
  refine wg_iadd dL_653 ⟨by omega, by omega⟩ ?_
  refine wl_ald hL dL_654 (by omega) (by omega) ?_
  refine wg_callV (I' := mX9_missing) (ci := 9) (np := 3) (d' := 20) (q := 96) (as := [vI (xs ((i : Int) + 1).toNat).toInt, vI (xs ((i : Int) + 2).toNat).toInt, vI (xs ((i : Int) + 3).toNat).toInt]) (st := [vI r]) dL_655 lk_L_100 ci_X9_missing rfl (Nat.le_of_ble_eq_true rfl) rfl rfl (Nat.le_of_ble_eq_true rfl) rfl (Nat.le_refl _) ⟨Nat.le_refl _, Nat.le_refl _⟩ h (fun v' M2 h2 => ?_)
  obtain ⟨rfl, hB2⟩ := h2
  refine wg_icmp_eq dL_658 rfl (fun _ => ?_) (fun h => absurd rfl h)
  exact next M2 hB2
set_option maxRecDepth 100000 in
theorem lc_21 (hL : L ≤ 320) (hi : i + 5 ≤ L) (hB : BiS M) (next : ∀ M2, BiS M2 → Wl G b L xs 855 [some (vR 778), some (vR 1), some (vR 96), some (vI (i : Int))] [] M2) : Wl G b L xs 663 [some (vR 778), some (vR 1), some (vR 96), some (vI (i : Int))] [] M := by
  refine wg_aload_n dL_663 rfl (by decide) ?_
  refine wg_aload_n dL_664 rfl (by decide) ?_
  refine wg_iload_n dL_665 rfl ?_
  refine wg_iconst dL_666 ⟨by decide, by decide⟩ ?_
  refine wg_iadd dL_667 ⟨by omega, by omega⟩ ?_
  refine wl_ald hL dL_668 (by omega) (by omega) ?_
  refine wg_aload_n dL_669 rfl (by decide) ?_
  refine wg_iload_n dL_670 rfl ?_
  refine wg_iconst dL_671 ⟨by decide, by decide⟩ ?_
  refine wg_iadd dL_672 ⟨by omega, by omega⟩ ?_
  refine wl_ald hL dL_673 (by omega) (by omega) ?_
  refine wg_aload_n dL_674 rfl (by decide) ?_
  refine wg_iload_n dL_675 rfl ?_
  refine wg_iconst dL_676 ⟨by decide, by decide⟩ ?_
  refine wg_iadd dL_677 ⟨by omega, by omega⟩ ?_
  refine wl_ald hL dL_678 (by omega) (by omega) ?_
  refine wg_aload_n dL_679 rfl (by decide) ?_
  refine wg_iload_n dL_680 rfl ?_
  refine wg_iconst dL_681 ⟨by decide, by decide⟩ ?_
  refine wg_iadd dL_682 ⟨by omega, by omega⟩ ?_
  refine wl_ald hL dL_683 (by omega) (by omega) ?_
  refine wg_callV (I' := mX8_trial) (ci := 8) (np := 4) (d' := 20) (q := 1) (as := [vI (xs ((i : Int) + 1).toNat).toInt, vI (xs ((i : Int) + 2).toNat).toInt, vI (xs ((i : Int) + 3).toNat).toInt, vI (xs ((i : Int) + 4).toNat).toInt]) (st := []) dL_684 lk_L_101 ci_X8_trial rfl (Nat.le_of_ble_eq_true rfl) rfl rfl (Nat.le_of_ble_eq_true rfl) rfl (Nat.le_refl _) ⟨Nat.le_refl _, Nat.le_refl _⟩ (p21_trial hB (xs ((i : Int) + 1).toNat).toInt (xs ((i : Int) + 2).toNat).toInt (xs ((i : Int) + 3).toNat).toInt (xs ((i : Int) + 4).toNat).toInt) (fun v M1 h => ?_)
  obtain ⟨r, rfl, h⟩ := h
  refine wg_aload_n dL_687 rfl (by decide) ?_
  refine wg_aload_n dL_688 rfl (by decide) ?_
  refine wg_iload_n dL_689 rfl ?_
  refine wg_iconst dL_690 ⟨by decide, by decide⟩ ?_
  refine wg_iadd dL_691 ⟨by omega, by omega⟩ ?_
  refine wl_ald hL dL_692 (by omega) (by omega) ?_
  refine wg_aload_n dL_693 rfl (by decide) ?_
  refine wg_iload_n dL_694 rfl ?_
  refine wg_iconst dL_695 ⟨by decide, by decide⟩ ?_
  refine wg_iadd dL_696 ⟨by omega, by omega⟩ ?_
  refine wl_ald hL dL_697 (by omega) (by omega) ?_
  refine wg_aload_n dL_698 rfl (by decide) ?_
  refine wg_iload_n dL_699 rfl ?_
  refine wg_iconst dL_700 ⟨by decide, by decide⟩ ?_
  refine wg_iadd dL_701 ⟨by omega, by omega⟩ ?_
  refine wl_ald hL dL_702 (by omega) (by omega) ?_
  refine wg_aload_n dL_703 rfl (by decide) ?_
  refine wg_iload_n dL_704 rfl ?_
  refine wg_iconst dL_705 ⟨by decide, by decide⟩ ?_
  refine wg_iadd dL_706 ⟨by omega, by omega⟩ ?_
  refine wl_ald hL dL_707 (by omega) (by omega) ?_
  refine wg_callV (I' := mX9_trial) (ci := 9) (np := 4) (d' := 20) (q := 96) (as := [vI (xs ((i : Int) + 1).toNat).toInt, vI (xs ((i : Int) + 2).toNat).toInt, vI (xs ((i : Int) + 3).toNat).toInt, vI (xs ((i : Int) + 4).toNat).toInt]) (st := [vL r]) dL_708 lk_L_105 ci_X9_trial rfl (Nat.le_of_ble_eq_true rfl) rfl rfl (Nat.le_of_ble_eq_true rfl) rfl (Nat.le_refl _) ⟨Nat.le_refl _, Nat.le_refl _⟩ h (fun v' M2 h2 => ?_)
  obtain ⟨rfl, hB2⟩ := h2
  refine wg_lcmp dL_711 ?_
  refine wg_if_eq dL_712 rfl (fun _ => ?_) (fun h => absurd (lcmp_eq.mpr rfl) h)
  exact next M2 hB2
set_option maxRecDepth 100000 in
theorem lc_22 (hL : L ≤ 320) (hi : i + 5 ≤ L) (hB : BiS M) (next : ∀ M2, BiS M2 → Wl G b L xs 855 [some (vR 778), some (vR 1), some (vR 96), some (vI (i : Int))] [] M2) : Wl G b L xs 717 [some (vR 778), some (vR 1), some (vR 96), some (vI (i : Int))] [] M := by
  refine wg_aload_n dL_717 rfl (by decide) ?_
  refine wg_aload_n dL_718 rfl (by decide) ?_
  refine wg_iload_n dL_719 rfl ?_
  refine wg_iconst dL_720 ⟨by decide, by decide⟩ ?_
  refine wg_iadd dL_721 ⟨by omega, by omega⟩ ?_
  refine wl_ald hL dL_722 (by omega) (by omega) ?_
  refine wg_callV (I' := mX8_pledge) (ci := 8) (np := 1) (d' := 20) (q := 1) (as := [vI (xs ((i : Int) + 1).toNat).toInt]) (st := []) dL_723 lk_L_106 ci_X8_pledge rfl (Nat.le_of_ble_eq_true rfl) rfl rfl (Nat.le_of_ble_eq_true rfl) rfl (Nat.le_refl _) ⟨Nat.le_refl _, Nat.le_refl _⟩ (p22_pledge hB (xs ((i : Int) + 1).toNat).toInt) (fun v M1 h => ?_)
  obtain ⟨r, rfl, h⟩ := h
  refine wg_aload_n dL_726 rfl (by decide) ?_
  refine wg_aload_n dL_727 rfl (by decide) ?_
  refine wg_iload_n dL_728 rfl ?_
  refine wg_iconst dL_729 ⟨by decide, by decide⟩ ?_
  refine wg_iadd dL_730 ⟨by omega, by omega⟩ ?_
  refine wl_ald hL dL_731 (by omega) (by omega) ?_
  refine wg_callV (I' := mX9_pledge) (ci := 9) (np := 1) (d' := 20) (q := 96) (as := [vI (xs ((i : Int) + 1).toNat).toInt]) (st := [vI r]) dL_732 lk_L_109 ci_X9_pledge rfl (Nat.le_of_ble_eq_true rfl) rfl rfl (Nat.le_of_ble_eq_true rfl) rfl (Nat.le_refl _) ⟨Nat.le_refl _, Nat.le_refl _⟩ h (fun v' M2 h2 => ?_)
  obtain ⟨rfl, hB2⟩ := h2
  refine wg_icmp_eq dL_735 rfl (fun _ => ?_) (fun h => absurd rfl h)
  exact next M2 hB2
set_option maxRecDepth 100000 in
theorem lc_23 (hL : L ≤ 320) (hi : i + 5 ≤ L) (hB : BiS M) (next : ∀ M2, BiS M2 → Wl G b L xs 855 [some (vR 778), some (vR 1), some (vR 96), some (vI (i : Int))] [] M2) : Wl G b L xs 740 [some (vR 778), some (vR 1), some (vR 96), some (vI (i : Int))] [] M := by
  refine wg_aload_n dL_740 rfl (by decide) ?_
  refine wg_aload_n dL_741 rfl (by decide) ?_
  refine wg_iload_n dL_742 rfl ?_
  refine wg_iconst dL_743 ⟨by decide, by decide⟩ ?_
  refine wg_iadd dL_744 ⟨by omega, by omega⟩ ?_
  refine wl_ald hL dL_745 (by omega) (by omega) ?_
  refine wg_callV (I' := mX8_gain) (ci := 8) (np := 1) (d' := 20) (q := 1) (as := [vI (xs ((i : Int) + 1).toNat).toInt]) (st := []) dL_746 lk_L_110 ci_X8_gain rfl (Nat.le_of_ble_eq_true rfl) rfl rfl (Nat.le_of_ble_eq_true rfl) rfl (Nat.le_refl _) ⟨Nat.le_refl _, Nat.le_refl _⟩ (p23_gain hB (xs ((i : Int) + 1).toNat).toInt) (fun v M1 h => ?_)
  obtain ⟨r, rfl, h⟩ := h
  refine wg_aload_n dL_749 rfl (by decide) ?_
  refine wg_aload_n dL_750 rfl (by decide) ?_
  refine wg_iload_n dL_751 rfl ?_
  refine wg_iconst dL_752 ⟨by decide, by decide⟩ ?_
  refine wg_iadd dL_753 ⟨by omega, by omega⟩ ?_
  refine wl_ald hL dL_754 (by omega) (by omega) ?_
  refine wg_callV (I' := mX9_gain) (ci := 9) (np := 1) (d' := 20) (q := 96) (as := [vI (xs ((i : Int) + 1).toNat).toInt]) (st := [vI r]) dL_755 lk_L_113 ci_X9_gain rfl (Nat.le_of_ble_eq_true rfl) rfl rfl (Nat.le_of_ble_eq_true rfl) rfl (Nat.le_refl _) ⟨Nat.le_refl _, Nat.le_refl _⟩ h (fun v' M2 h2 => ?_)
  obtain ⟨rfl, hB2⟩ := h2
  refine wg_icmp_eq dL_758 rfl (fun _ => ?_) (fun h => absurd rfl h)
  exact next M2 hB2
set_option maxRecDepth 100000 in
theorem lc_24 (hL : L ≤ 320) (hi : i + 5 ≤ L) (hB : BiS M) (next : ∀ M2, BiS M2 → Wl G b L xs 855 [some (vR 778), some (vR 1), some (vR 96), some (vI (i : Int))] [] M2) : Wl G b L xs 763 [some (vR 778), some (vR 1), some (vR 96), some (vI (i : Int))] [] M := by
  refine wg_aload_n dL_763 rfl (by decide) ?_
  refine wg_aload_n dL_764 rfl (by decide) ?_
  refine wg_iload_n dL_765 rfl ?_
  refine wg_iconst dL_766 ⟨by decide, by decide⟩ ?_
  refine wg_iadd dL_767 ⟨by omega, by omega⟩ ?_
  refine wl_ald hL dL_768 (by omega) (by omega) ?_
  refine wg_aload_n dL_769 rfl (by decide) ?_
  refine wg_iload_n dL_770 rfl ?_
  refine wg_iconst dL_771 ⟨by decide, by decide⟩ ?_
  refine wg_iadd dL_772 ⟨by omega, by omega⟩ ?_
  refine wl_ald hL dL_773 (by omega) (by omega) ?_
  refine wg_aload_n dL_774 rfl (by decide) ?_
  refine wg_iload_n dL_775 rfl ?_
  refine wg_iconst dL_776 ⟨by decide, by decide⟩ ?_
  refine wg_iadd dL_777 ⟨by omega, by omega⟩ ?_
  refine wl_ald hL dL_778 (by omega) (by omega) ?_
  refine wg_callV (I' := mX8_row) (ci := 8) (np := 3) (d' := 20) (q := 1) (as := [vI (xs ((i : Int) + 1).toNat).toInt, vI (xs ((i : Int) + 2).toNat).toInt, vI (xs ((i : Int) + 3).toNat).toInt]) (st := []) dL_779 lk_L_114 ci_X8_row rfl (Nat.le_of_ble_eq_true rfl) rfl rfl (Nat.le_of_ble_eq_true rfl) rfl (Nat.le_refl _) ⟨Nat.le_refl _, Nat.le_refl _⟩ (p24_row hB (xs ((i : Int) + 1).toNat).toInt (xs ((i : Int) + 2).toNat).toInt (xs ((i : Int) + 3).toNat).toInt) (fun v M1 h => ?_)
  obtain ⟨r, rfl, h⟩ := h
  refine wg_aload_n dL_782 rfl (by decide) ?_
  refine wg_aload_n dL_783 rfl (by decide) ?_
  refine wg_iload_n dL_784 rfl ?_
  refine wg_iconst dL_785 ⟨by decide, by decide⟩ ?_
  refine wg_iadd dL_786 ⟨by omega, by omega⟩ ?_
  refine wl_ald hL dL_787 (by omega) (by omega) ?_
  refine wg_aload_n dL_788 rfl (by decide) ?_
  refine wg_iload_n dL_789 rfl ?_
  refine wg_iconst dL_790 ⟨by decide, by decide⟩ ?_
  refine wg_iadd dL_791 ⟨by omega, by omega⟩ ?_
  refine wl_ald hL dL_792 (by omega) (by omega) ?_
  refine wg_aload_n dL_793 rfl (by decide) ?_
  refine wg_iload_n dL_794 rfl ?_
  refine wg_iconst dL_795 ⟨by decide, by decide⟩ ?_
  refine wg_iadd dL_796 ⟨by omega, by omega⟩ ?_
  refine wl_ald hL dL_797 (by omega) (by omega) ?_
  refine wg_callV (I' := mX9_row) (ci := 9) (np := 3) (d' := 20) (q := 96) (as := [vI (xs ((i : Int) + 1).toNat).toInt, vI (xs ((i : Int) + 2).toNat).toInt, vI (xs ((i : Int) + 3).toNat).toInt]) (st := [vI r]) dL_798 lk_L_117 ci_X9_row rfl (Nat.le_of_ble_eq_true rfl) rfl rfl (Nat.le_of_ble_eq_true rfl) rfl (Nat.le_refl _) ⟨Nat.le_refl _, Nat.le_refl _⟩ h (fun v' M2 h2 => ?_)
  obtain ⟨rfl, hB2⟩ := h2
  refine wg_icmp_eq dL_801 rfl (fun _ => ?_) (fun h => absurd rfl h)
  exact next M2 hB2
set_option maxRecDepth 100000 in
theorem lc_25 (hL : L ≤ 320) (hi : i + 5 ≤ L) (hB : BiS M) (next : ∀ M2, BiS M2 → Wl G b L xs 855 [some (vR 778), some (vR 1), some (vR 96), some (vI (i : Int))] [] M2) : Wl G b L xs 806 [some (vR 778), some (vR 1), some (vR 96), some (vI (i : Int))] [] M := by
  refine wg_aload_n dL_806 rfl (by decide) ?_
  refine wg_callV (I' := mX8_keep) (ci := 8) (np := 0) (d' := 20) (q := 1) (as := []) (st := []) dL_807 lk_L_118 ci_X8_keep rfl (Nat.le_of_ble_eq_true rfl) rfl rfl (Nat.le_of_ble_eq_true rfl) rfl (Nat.le_refl _) ⟨Nat.le_refl _, Nat.le_refl _⟩ (p25_keep hB) (fun v M1 h => ?_)
  obtain ⟨r, rfl, h⟩ := h
  refine wg_aload_n dL_810 rfl (by decide) ?_
  refine wg_callV (I' := mX9_keep) (ci := 9) (np := 0) (d' := 20) (q := 96) (as := []) (st := [vI r]) dL_811 lk_L_121 ci_X9_keep rfl (Nat.le_of_ble_eq_true rfl) rfl rfl (Nat.le_of_ble_eq_true rfl) rfl (Nat.le_refl _) ⟨Nat.le_refl _, Nat.le_refl _⟩ h (fun v' M2 h2 => ?_)
  obtain ⟨rfl, hB2⟩ := h2
  refine wg_icmp_eq dL_814 rfl (fun _ => ?_) (fun h => absurd rfl h)
  exact next M2 hB2
set_option maxRecDepth 100000 in
theorem lc_26 (hL : L ≤ 320) (hi : i + 5 ≤ L) (hB : BiS M) (next : ∀ M2, BiS M2 → Wl G b L xs 855 [some (vR 778), some (vR 1), some (vR 96), some (vI (i : Int))] [] M2) : Wl G b L xs 819 [some (vR 778), some (vR 1), some (vR 96), some (vI (i : Int))] [] M := by
  refine wg_aload_n dL_819 rfl (by decide) ?_
  refine wg_callV (I' := mX8_restore) (ci := 8) (np := 0) (d' := 20) (q := 1) (as := []) (st := []) dL_820 lk_L_122 ci_X8_restore rfl (Nat.le_of_ble_eq_true rfl) rfl rfl (Nat.le_of_ble_eq_true rfl) rfl (Nat.le_refl _) ⟨Nat.le_refl _, Nat.le_refl _⟩ (p26_restore hB) (fun v M1 h => ?_)
  obtain ⟨r, rfl, h⟩ := h
  refine wg_aload_n dL_823 rfl (by decide) ?_
  refine wg_callV (I' := mX9_restore) (ci := 9) (np := 0) (d' := 20) (q := 96) (as := []) (st := [vI r]) dL_824 lk_L_125 ci_X9_restore rfl (Nat.le_of_ble_eq_true rfl) rfl rfl (Nat.le_of_ble_eq_true rfl) rfl (Nat.le_refl _) ⟨Nat.le_refl _, Nat.le_refl _⟩ h (fun v' M2 h2 => ?_)
  obtain ⟨rfl, hB2⟩ := h2
  refine wg_icmp_eq dL_827 rfl (fun _ => ?_) (fun h => absurd rfl h)
  exact next M2 hB2
set_option maxRecDepth 100000 in
theorem lc_27 (hL : L ≤ 320) (hi : i + 5 ≤ L) (hB : BiS M) (next : ∀ M2, BiS M2 → Wl G b L xs 855 [some (vR 778), some (vR 1), some (vR 96), some (vI (i : Int))] [] M2) : Wl G b L xs 832 [some (vR 778), some (vR 1), some (vR 96), some (vI (i : Int))] [] M := by
  refine wg_aload_n dL_832 rfl (by decide) ?_
  refine wg_aload_n dL_833 rfl (by decide) ?_
  refine wg_iload_n dL_834 rfl ?_
  refine wg_iconst dL_835 ⟨by decide, by decide⟩ ?_
  refine wg_iadd dL_836 ⟨by omega, by omega⟩ ?_
  refine wl_ald hL dL_837 (by omega) (by omega) ?_
  refine wg_callV (I' := mX8_count) (ci := 8) (np := 1) (d' := 20) (q := 1) (as := [vI (xs ((i : Int) + 1).toNat).toInt]) (st := []) dL_838 lk_L_126 ci_X8_count rfl (Nat.le_of_ble_eq_true rfl) rfl rfl (Nat.le_of_ble_eq_true rfl) rfl (Nat.le_refl _) ⟨Nat.le_refl _, Nat.le_refl _⟩ (p27_count hB (xs ((i : Int) + 1).toNat).toInt) (fun v M1 h => ?_)
  obtain ⟨r, rfl, h⟩ := h
  refine wg_aload_n dL_841 rfl (by decide) ?_
  refine wg_aload_n dL_842 rfl (by decide) ?_
  refine wg_iload_n dL_843 rfl ?_
  refine wg_iconst dL_844 ⟨by decide, by decide⟩ ?_
  refine wg_iadd dL_845 ⟨by omega, by omega⟩ ?_
  refine wl_ald hL dL_846 (by omega) (by omega) ?_
  refine wg_callV (I' := mX9_count) (ci := 9) (np := 1) (d' := 20) (q := 96) (as := [vI (xs ((i : Int) + 1).toNat).toInt]) (st := [vI r]) dL_847 lk_L_129 ci_X9_count rfl (Nat.le_of_ble_eq_true rfl) rfl rfl (Nat.le_of_ble_eq_true rfl) rfl (Nat.le_refl _) ⟨Nat.le_refl _, Nat.le_refl _⟩ h (fun v' M2 h2 => ?_)
  obtain ⟨rfl, hB2⟩ := h2
  refine wg_icmp_eq dL_850 rfl (fun _ => ?_) (fun h => absurd rfl h)
  exact next M2 hB2
theorem and31 : ∀ x : Int, 0 ≤ iandv x 31 ∧ iandv x 31 < 32 := by
  intro x
  have e : iandv x 31 = ((Int32.ofInt x &&& 31).toBitVec.toNat : Int) := by
    have h1 : (Int32.ofInt x &&& 31).toBitVec.toNat < 2 ^ 31 := by
      show ((Int32.ofInt x).toBitVec &&& 31#32).toNat < _
      rw [BitVec.toNat_and]
      exact Nat.lt_of_le_of_lt Nat.and_le_right (by decide)
    unfold iandv
    show (Int32.ofInt x &&& 31).toBitVec.toInt = _
    rw [BitVec.toInt_eq_toNat_of_lt (by omega)]
  have h2 : (Int32.ofInt x &&& 31).toBitVec.toNat ≤ 31 := by
    show ((Int32.ofInt x).toBitVec &&& 31#32).toNat ≤ _
    rw [BitVec.toNat_and]
    exact Nat.and_le_right
  rw [e]
  omega
set_option maxRecDepth 100000 in
theorem lw_loop (hL : L ≤ 320) : ∀ (f i : Nat) (M : MM), i ≤ 330 → L ≤ i + 5 * f → BiS M → Wl G b L xs 18 [some (vR 778), some (vR 1), some (vR 96), some (vI (i : Int))] [] M := by
  have fin : ∀ (i : Nat) (M : MM), Wl G b L xs 861 [some (vR 778), some (vR 1), some (vR 96), some (vI (i : Int))] [] M := by
    intro i M
    refine wg_iconst dL_861 ⟨by decide, by decide⟩ ?_
    exact wl_end dL_862 ⟨by decide, by decide⟩
  intro f
  induction f with
  | zero =>
    intro i M hi hf hB
    refine wg_iload_n dL_18 rfl ?_
    refine wg_aload_n dL_19 rfl (by decide) ?_
    refine wl_len hL dL_20 ?_
    refine wg_iconst dL_21 ⟨by decide, by decide⟩ ?_
    refine wg_isub dL_22 ⟨by omega, by omega⟩ ?_
    refine wg_icmp_gt dL_23 rfl (fun _ => fin i M) (fun h => absurd (by omega) h)
  | succ f ih =>
    intro i M hi hf hB
    refine wg_iload_n dL_18 rfl ?_
    refine wg_aload_n dL_19 rfl (by decide) ?_
    refine wl_len hL dL_20 ?_
    refine wg_iconst dL_21 ⟨by decide, by decide⟩ ?_
    refine wg_isub dL_22 ⟨by omega, by omega⟩ ?_
    refine wg_icmp_gt dL_23 rfl (fun _ => fin i M) (fun hle => ?_)
    have hi5 : i + 5 ≤ L := by omega
    have next : ∀ M2, BiS M2 → Wl G b L xs 855 [some (vR 778), some (vR 1), some (vR 96), some (vI (i : Int))] [] M2 := by
      intro M2 hB2
      refine wg_iinc (L' := [some (vR 778), some (vR 1), some (vR 96), some (vI ((i : Int) + 5))]) dL_855 (Nat.le_of_ble_eq_true rfl) rfl rfl ⟨by omega, by omega⟩ ?_
      refine wg_goto dL_858 rfl ?_
      exact ih (i + 5) M2 (by omega) (by omega) hB2
    refine wg_aload_n dL_26 rfl (by decide) ?_
    refine wg_iload_n dL_27 rfl ?_
    refine wl_ald hL dL_28 (by omega) (by omega) ?_
    refine wg_bipush dL_29 ⟨by decide, by decide⟩ ?_
    refine wg_iand dL_31 ?_
    obtain ⟨g1, g2⟩ := and31 (xs (i : Int).toNat).toInt
    generalize iandv (xs (i : Int).toNat).toInt 31 = x at *
    by_cases c0 : x = 0
    · exact wg_tableIn dL_32 (by omega) (by omega) (off := 128) (by rw [c0]; decide) rfl (lc_0 hL hi5 hB next)
    by_cases c1 : x = 1
    · exact wg_tableIn dL_32 (by omega) (by omega) (off := 151) (by rw [c1]; decide) rfl (lc_1 hL hi5 hB next)
    by_cases c2 : x = 2
    · exact wg_tableIn dL_32 (by omega) (by omega) (off := 164) (by rw [c2]; decide) rfl (lc_2 hL hi5 hB next)
    by_cases c3 : x = 3
    · exact wg_tableIn dL_32 (by omega) (by omega) (off := 177) (by rw [c3]; decide) rfl (lc_3 hL hi5 hB next)
    by_cases c4 : x = 4
    · exact wg_tableIn dL_32 (by omega) (by omega) (off := 190) (by rw [c4]; decide) rfl (lc_4 hL hi5 hB next)
    by_cases c5 : x = 5
    · exact wg_tableIn dL_32 (by omega) (by omega) (off := 223) (by rw [c5]; decide) rfl (lc_5 hL hi5 hB next)
    by_cases c6 : x = 6
    · exact wg_tableIn dL_32 (by omega) (by omega) (off := 256) (by rw [c6]; decide) rfl (lc_6 hL hi5 hB next)
    by_cases c7 : x = 7
    · exact wg_tableIn dL_32 (by omega) (by omega) (off := 289) (by rw [c7]; decide) rfl (lc_7 hL hi5 hB next)
    by_cases c8 : x = 8
    · exact wg_tableIn dL_32 (by omega) (by omega) (off := 312) (by rw [c8]; decide) rfl (lc_8 hL hi5 hB next)
    by_cases c9 : x = 9
    · exact wg_tableIn dL_32 (by omega) (by omega) (off := 335) (by rw [c9]; decide) rfl (lc_9 hL hi5 hB next)
    by_cases c10 : x = 10
    · exact wg_tableIn dL_32 (by omega) (by omega) (off := 348) (by rw [c10]; decide) rfl (lc_10 hL hi5 hB next)
    by_cases c11 : x = 11
    · exact wg_tableIn dL_32 (by omega) (by omega) (off := 381) (by rw [c11]; decide) rfl (lc_11 hL hi5 hB next)
    by_cases c12 : x = 12
    · exact wg_tableIn dL_32 (by omega) (by omega) (off := 404) (by rw [c12]; decide) rfl (lc_12 hL hi5 hB next)
    by_cases c13 : x = 13
    · exact wg_tableIn dL_32 (by omega) (by omega) (off := 427) (by rw [c13]; decide) rfl (lc_13 hL hi5 hB next)
    by_cases c14 : x = 14
    · exact wg_tableIn dL_32 (by omega) (by omega) (off := 440) (by rw [c14]; decide) rfl (lc_14 hL hi5 hB next)
    by_cases c15 : x = 15
    · exact wg_tableIn dL_32 (by omega) (by omega) (off := 463) (by rw [c15]; decide) rfl (lc_15 hL hi5 hB next)
    by_cases c16 : x = 16
    · exact wg_tableIn dL_32 (by omega) (by omega) (off := 496) (by rw [c16]; decide) rfl (lc_16 hL hi5 hB next)
    by_cases c17 : x = 17
    · exact wg_tableIn dL_32 (by omega) (by omega) (off := 519) (by rw [c17]; decide) rfl (lc_17 hL hi5 hB next)
    by_cases c18 : x = 18
    · exact wg_tableIn dL_32 (by omega) (by omega) (off := 542) (by rw [c18]; decide) rfl (lc_18 hL hi5 hB next)
    by_cases c19 : x = 19
    · exact wg_tableIn dL_32 (by omega) (by omega) (off := 565) (by rw [c19]; decide) rfl (lc_19 hL hi5 hB next)
    by_cases c20 : x = 20
    · exact wg_tableIn dL_32 (by omega) (by omega) (off := 588) (by rw [c20]; decide) rfl (lc_20 hL hi5 hB next)
    by_cases c21 : x = 21
    · exact wg_tableIn dL_32 (by omega) (by omega) (off := 631) (by rw [c21]; decide) rfl (lc_21 hL hi5 hB next)
    by_cases c22 : x = 22
    · exact wg_tableIn dL_32 (by omega) (by omega) (off := 685) (by rw [c22]; decide) rfl (lc_22 hL hi5 hB next)
    by_cases c23 : x = 23
    · exact wg_tableIn dL_32 (by omega) (by omega) (off := 708) (by rw [c23]; decide) rfl (lc_23 hL hi5 hB next)
    by_cases c24 : x = 24
    · exact wg_tableIn dL_32 (by omega) (by omega) (off := 731) (by rw [c24]; decide) rfl (lc_24 hL hi5 hB next)
    by_cases c25 : x = 25
    · exact wg_tableIn dL_32 (by omega) (by omega) (off := 774) (by rw [c25]; decide) rfl (lc_25 hL hi5 hB next)
    by_cases c26 : x = 26
    · exact wg_tableIn dL_32 (by omega) (by omega) (off := 787) (by rw [c26]; decide) rfl (lc_26 hL hi5 hB next)
    by_cases c27 : x = 27
    · exact wg_tableIn dL_32 (by omega) (by omega) (off := 800) (by rw [c27]; decide) rfl (lc_27 hL hi5 hB next)
    exact wg_tableOut dL_32 (by omega) rfl (next M hB)
set_option maxRecDepth 100000 in
/-- the law from its entry -/
theorem lw_all (hL : L ≤ 320) : Wg G mL (XL G b L xs) 21 110 25728 ZL 0 [some (vR 778), none, none, none] [] mZ0 0 0 := by
  refine wg_new' (q := 1) dL_0 (nw_L_7 rfl) rfl rfl ⟨Nat.le_of_ble_eq_true rfl, Nat.le_of_ble_eq_true rfl⟩ ?_
  refine wg_dup dL_3 rfl ?_
  refine wg_callI (I' := mX8_init) (np := 0) (d' := 20) (q := 1) (as := []) (st := [vR 1]) (Qc := fun v M' => v = none ∧ M'.1 = 95 ∧ ∀ f g, IxS M' (aZ f g)) dL_4 lk_L_9 ci_X8_init rfl rfl rfl (Nat.le_of_ble_eq_true rfl) (by decide) (Nat.le_refl _) (mc' := 94) (ms' := 6817) ⟨Nat.le_of_ble_eq_true rfl, Nat.le_of_ble_eq_true rfl⟩ (ok8_init (by decide) fun M' h1 h2 => ⟨rfl, h1, h2⟩) (fun v M1 h => ?_)
  obtain ⟨rfl, h95, hI⟩ := h
  refine wg_astore_n (L' := [some (vR 778), some (vR 1), none, none]) dL_7 (Nat.le_of_ble_eq_true rfl) rfl (by decide) ?_
  refine wg_new' (q := 96) dL_8 (nw_L_10 rfl) (by rw [h95]) rfl ⟨Nat.le_of_ble_eq_true rfl, Nat.le_of_ble_eq_true rfl⟩ ?_
  refine wg_dup dL_11 rfl ?_
  refine wg_callI (I' := mX9_init) (np := 0) (d' := 20) (q := 96) (as := []) (st := [vR 96]) (Qc := fun v M' => v = none ∧ (∀ q j, q < 96 → gI M' q j = gI (stN M1) q j ∧ gR M' q j = gR (stN M1) q j) ∧ ∀ f g, ImS M' (aZ f g)) dL_12 lk_L_12 ci_X9_init rfl rfl rfl (Nat.le_of_ble_eq_true rfl) (by decide) (Nat.le_refl _) (mc' := 14) (ms' := 18872) ⟨Nat.le_of_ble_eq_true rfl, Nat.le_of_ble_eq_true rfl⟩ (ok9_init (by decide) (by show M1.1 + 1 = 96; rw [h95]) (fun j => by rw [gI_N, if_pos (by rw [h95])]) fun M' _ h2 h3 => ⟨rfl, h2, h3⟩) (fun v M2 h => ?_)
  obtain ⟨rfl, hlo, hM⟩ := h
  refine wg_astore_n (L' := [some (vR 778), some (vR 1), some (vR 96), none]) dL_15 (Nat.le_of_ble_eq_true rfl) rfl (by decide) ?_
  refine wg_iconst dL_16 ⟨by decide, by decide⟩ ?_
  refine wg_istore_n (L' := [some (vR 778), some (vR 1), some (vR 96), some (vI ((0 : Nat) : Int))]) dL_17 (Nat.le_of_ble_eq_true rfl) rfl ?_
  have hB : BiS M2 := by
    refine ⟨aZ (fun _ => s00) (fun _ => s00), (hI (fun _ => s00) (fun _ => s00)).lo fun q j hq => ?_, hM _ _, gd_0⟩
    obtain ⟨e1, e2⟩ := hlo q j hq
    rw [e1, e2, gI_N, gR_N, if_neg (by omega), if_neg (by omega)]
    exact ⟨rfl, rfl⟩
  exact lw_loop hL 70 0 M2 (by decide) (by omega) hB
end LAWC
