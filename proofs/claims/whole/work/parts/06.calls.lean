/-! ===== new cells, calls, ends ===== -/
def okty : FieldType → Bool
  | .int => true
  | .array _ => true
  | .object _ => true
  | _ => false
/-- class ci can be made by class I at its entry ix -/
def NW (I : MI) (ix ci N : Nat) : Prop := ∃ (C : String) (T : u_T), cls[ci]? = some (C, T, N) ∧ nf ci = N ∧ Cond.classLink I.1.cls ix C ∈ WS ∧ Cond.instantiable C N ∈ WS ∧ Cond.initialized C ∈ WS ∧ (∀ w ∈ u_ws C T N, w ∈ WS) ∧ (∀ k, k < N → parseFieldDescriptor (T k).2.2.1 = some (tyc ci k)) ∧ (∀ k, k < N → okty (tyc ci k) = true) ∧ ci < 10
/-- a method that can be called: its words, its number of parameters -/
def CI (I' : MI) (np : Nat) : Prop := Cond.initialized I'.1.cls ∈ WS ∧ Cond.code I'.1 I'.2.1 I'.2.2.1 I'.2.2.2 ∈ WS ∧ (I'.1.cls ≠ "java/lang/invoke/MethodHandle" ∧ I'.1.cls ≠ "java/lang/invoke/VarHandle" ∧ (parseMethodDescriptor I'.1.desc).map (fun d => d.parameters.length) = some np) ∧ I'.2.2.1 ≤ 20
def CVi (I' : MI) (np : Nat) : Prop := CI I' np ∧ Cond.instanceMethod I'.1 ∈ WS ∧ Cond.selects I'.1.cls I'.1 I'.1 ∈ WS
def CSt (I' : MI) (np : Nat) : Prop := CI I' np ∧ Cond.static I'.1 ∈ WS
def CCo (I' : MI) (np : Nat) : Prop := CI I' np ∧ Cond.instanceMethod I'.1 ∈ WS ∧ I'.1.name = "<init>"
theorem ws_good {w : Cond} (h : w ∈ WS) : (w.onTables && w.keeps) = true ∨ ∃ ty, w = .arrayClass ty := good_of_word (List.mem_filter.mp h).2
theorem ws_in {ws : List Cond} (h : ∀ w ∈ ws, w ∈ WS) : GoodIn WS ws := fun w hw => ⟨h w hw, ws_good (h w hw)⟩
theorem XS.moved {G : GG} {s U : State} {H H1 : Heap} (hW : s.WarmedH U.vm) (h : XS G s H) (hk : ∀ a : Nat, a < H.size → ¬ gA G a → H1[a]? = H[a]?) : XS G U H1 := ⟨vk_R.warm hW h.1, (vk_S.moved hW.alike h.2.1).kept hk, fun q hq => va_Nw.warmM hW (h.2.2.1 q hq), va_AO.moved hW.alike h.2.2.2.1, (va_Z.moved hW.alike h.2.2.2.2.1).kept hk, (SioZ.moved hW.alike h.2.2.2.2.2).kept hk⟩
theorem pco_blind {G : GG} {ad : Nat → Nat} {M : MM} {vs : List Value} : FrameBlind (va_Pc vs (PcO G ad M)) := by
  intro a U g mk h
  obtain ⟨h1, h2, h3, h4, h5⟩ := h
  exact ⟨h1, h2, va_K.moved (u := U) (U := U.calling g mk a) (Vm.Alike.refl U.vm) h3, ⟨vk_R.same (u := U) rfl h4.1, vk_S.moved (u := U) (U := U.calling g mk a) (Vm.Alike.refl U.vm) h4.2.1, fun q hq => va_Nw.same rfl rfl (h4.2.2.1 q hq), va_AO.moved (u := U) (U := U.calling g mk a) (Vm.Alike.refl U.vm) h4.2.2.2.1, va_Z.moved (u := U) (U := U.calling g mk a) (Vm.Alike.refl U.vm) h4.2.2.2.2.1, SioZ.moved (u := U) (U := U.calling g mk a) (Vm.Alike.refl U.vm) h4.2.2.2.2.2⟩, h5⟩
section WC
variable {G : GG} {I : MI} {XX : State → Prop} {d mc ms : Nat} {Z : Nat → (Nat → Nat) → List Frame → Array Value → State → State → Prop} {pc pc' : Nat} {L : List (Option AV)} {st : List AV} {M : MM} {k n : Nat}
theorem pco_at {p : Program} {s U : State} {m : MethodId} {args : Array Value} {meth : Method} {c : Code} {H : Heap} {locs : List Loc} {ad : Nat → Nat} (X : Cx G I XX p s m args meth c) (hW : Ww G ad M H) (hS : va_S (gA G) s.heap H locs) (hU : U.heap = H) (hw : s.WarmedH U.vm) : PcO G ad M U := by
  refine ⟨?_, va_K.moved hw.alike X.2.2.2.2.2.2.2.1, ?_, ?_⟩
  · rw [hU]; exact Nat.le_trans X.2.2.2.2.2.2.2.2.1 hS.1
  · rw [hU]; exact XS.moved hw X.2.2.2.2.2.2.2.2.2.2.1 hS.2.1
  · rw [hU]; exact hW
theorem wg_back {p : Program} {e : Env} {s : State} {m : MethodId} {args : Array Value} {below : List Frame} {meth : Method} {c : Code} {H : Heap} {locs : List Loc} {Ls : Array Slot} {ad : Nat → Nat} {Q : State → Prop} {Qc : Option AV → MM → Prop} {st0 rest : List Value} {mc' ms' : Nat} {a : Array Value} {rm : Room}
    (hr : va_Run p G.1 e rm s m args below meth c H locs k n mc' ms' (F0 m pc Ls st0) rest (QcO G M.1 ad Qc a) (gA G)) (hS : va_S (gA G) s.heap H locs)
    (kk : ∀ (v : Option AV) (M' : MM) (ad' : Nat → Nat) (H1 : Heap) (locs1 : List Loc), Qc v M' → M.1 ≤ M'.1 → AdE M.1 ad ad' → (∀ x, v = some x → vok M'.1 x) → Ww G ad' M' H1 → va_S (gA G) s.heap H1 locs1 → W p G.1 e rm s m args below meth c H1 locs1 (k + mc') (n + ms') Q (F0 m (pc + 3) Ls ((v.map (cv ad')).toList ++ rest))) :
    W p G.1 e rm s m args below meth c H locs k n Q (F0 m pc Ls st0) := by
  intro T hT X
  obtain ⟨v, st₀, t, T', L', h0, X', hL, e1, e2, ⟨⟨v', M', ad', hv, hq, hn, hE, hok, hW⟩, hz, hk⟩, sts⟩ := hr T hT X
  cases hv
  rw [h0] at hz hk
  obtain ⟨t2, a1, b1⟩ := kk v' M' ad' T'.heap (locs ++ L') hq hn hE hok (by rw [e1]; exact hW)
    ⟨Nat.le_trans hS.1 (by rw [e1]; exact hz), fun q h1 h2 => by rw [e1, hk q (Nat.lt_of_lt_of_le h1 hS.1) h2]; exact hS.2.1 q h1 h2, fun q hq => by
      rcases List.mem_append.mp hq with h | h
      · exact hS.2.2 q h
      · exact hL q h⟩ T' rfl X'
  exact ⟨t2, sts t2 a1, b1⟩
theorem cat_le {ad : Nat → Nat} : ∀ {l : List AV}, l.length ≤ 4 → ((l.map (cv ad)).map fun v => v.category).sum ≤ 8 := by
  intro l h
  have : ∀ (l : List AV), ((l.map (cv ad)).map fun v => v.category).sum ≤ 2 * l.length := by
    intro l
    induction l with
    | nil => simp
    | cons a l ih =>
      simp only [List.map_cons, List.sum_cons, List.length_cons]
      have := cv_cat ad a
      split at this <;> omega
  have := this l
  omega
theorem ret_stack {ad ad' : Nat → Nat} (hE : AdE M.1 ad ad') (hs : ∀ v ∈ st, vok M.1 v) (v : Option AV) : (v.map (cv ad')).toList ++ st.map (cv ad) = (v.toList ++ st).map (cv ad') := by
  rw [List.map_append, st_alike hE hs]
  cases v <;> rfl
theorem vok_app {N : Nat} {v : Option AV} (h1 : ∀ x, v = some x → vok N x) (h2 : ∀ x ∈ st, vok N x) : ∀ x ∈ v.toList ++ st, vok N x := by
  intro x hx
  rcases List.mem_append.mp hx with h | h
  · exact h1 x (by simpa using h)
  · exact h2 x h
theorem rev_ok {as : List AV} {stk : List AV} {N : Nat} (hs : stk = as.reverse ++ st) (h : ∀ v ∈ stk, vok N v) : (∀ v ∈ as, vok N v) ∧ ∀ v ∈ st, vok N v := by
  subst hs
  exact ⟨fun v hv => h v (List.mem_append_left _ (List.mem_reverse.mpr hv)), fun v hv => h v (List.mem_append_right _ hv)⟩
/-- a call of an instance method -/
theorem wg_callV {ix ci q np d' mc' ms' : Nat} {I' : MI} {T : u_T} {N : Nat} {as stk : List AV} {Qc : Option AV → MM → Prop} (hd : Dd I.2.1 pc (.invokevirtual ix) 3 pc') (hl : Cond.methodLink I.1.cls ix I'.1 ∈ WS) (hI : CVi I' np) (hC : cls[ci]? = some (I'.1.cls, T, N)) (hci : ci < 10) (hs : stk = as.reverse ++ vR q :: st) (hn : as.length = np) (hst : st.length ≤ 4) (hq : kd q = ci) (hd' : d' + 1 ≤ d) (hk : k + mc' ≤ mc ∧ n + ms' ≤ ms)
    (h : Ok G I' d' mc' ms' (vR q :: as) M Qc) (kk : ∀ (v : Option AV) (M' : MM), Qc v M' → Wg G I XX d mc ms Z pc' L (v.toList ++ st) M' (k + mc') (n + ms')) : Wg G I XX d mc ms Z pc L stk M k n := by
  obtain ⟨hd, rfl⟩ := hd
  obtain ⟨⟨i1, i2, i3, i4⟩, i5, i6⟩ := hI
  intro hL hs0 p e s m args below meth c H locs Ls ad n0 ad0 X hW hS hlv hn0 hE
  obtain ⟨has, hst0⟩ := rev_ok hs hs0
  have hst1 := vok_tl hst0
  obtain ⟨q1, q2⟩ := kd_ok (by omega) (vok_hd hst0)
  have hg := wl_get (G := G) (ad := ad) q1 q2
  rw [ce_obj (by omega), hq] at hg
  have hM := h (vok_cons (vok_hd hst0) has) ad
  have e1 : (vR q :: as).map (cv ad) = Value.ref (ad q) :: as.map (cv ad) := by simp only [List.map_cons, cv, cr_pos q1]
  rw [e1] at hM
  have hin : ∀ w ∈ wsV I.1.cls ix I'.1.cls I'.1 (Cond.code I'.1 I'.2.1 I'.2.2.1 I'.2.2.2 :: WS), w ∈ WS := by
    intro w hw
    unfold wsV at hw
    simp only [List.mem_append, List.mem_cons, List.not_mem_nil, or_false] at hw
    rcases hw with (rfl | rfl | rfl | rfl) | rfl | hw
    · exact hl
    · exact i5
    · exact i6
    · exact i1
    · exact i2
    · exact hw
  have hstk : stk.map (cv ad) = (as.map (cv ad)).reverse ++ Value.ref (ad q) :: st.map (cv ad) := by
    rw [hs, List.map_append, List.map_reverse, List.map_cons]
    simp only [cv, cr_pos q1]
  refine wg_back (mc' := mc') (ms' := ms') (va_runV (As := as.map (cv ad)) (rest := st.map (cv ad)) (nL := I.2.2.1) ⟨X.1, X.2.1, X.2.2.1, X.2.2.2.2.2.1, X.2.2.2.2.2.2.1⟩ hM (cwV np X.2.2.2.2.2.2.1 (ws_in hin) rfl rfl rfl ⟨rfl, i3⟩ ⟨hd', by show 8 + (I'.2.2.1 + 11) + 40 * d' ≤ 40 * d; omega⟩) ⟨pco_blind, va_recv X.2.2.2.2.2.2.2.1 hW.1 hC hg, fun U hU hw => ⟨rfl, pco_at X hW hS hU hw⟩⟩ rfl (by rw [List.length_map]; exact hn) hlv.1 hstk (lv_room (cat_le hst)) hd hk) hS (fun v M' ad' H1 locs1 hQ hn1 hE1 hok hW1 hS1 => ?_)
  rw [ret_stack hE1 hst1]
  exact kk v M' hQ (fun u hu => vok_mono hn1 (hL u hu)) (vok_app hok (fun u hu => vok_mono hn1 (hst1 u hu))) p e s m args below meth c H1 locs1 Ls ad' n0 ad0 X hW1 hS1 (lv_subset hlv (al_alike hE1 hL)) (Nat.le_trans hn0 hn1) (AdE.tr hn0 hE hE1)
/-- a call of a static method -/
theorem wg_callS {ix np d' mc' ms' : Nat} {I' : MI} {as stk : List AV} {Qc : Option AV → MM → Prop} (hd : Dd I.2.1 pc (.invokestatic ix) 3 pc') (hl : Cond.methodLink I.1.cls ix I'.1 ∈ WS) (hI : CSt I' np) (hs : stk = as.reverse ++ st) (hn : as.length = np) (hst : st.length ≤ 4) (hd' : d' + 1 ≤ d) (hk : k + mc' ≤ mc ∧ n + ms' ≤ ms)
    (h : Ok G I' d' mc' ms' as M Qc) (kk : ∀ (v : Option AV) (M' : MM), Qc v M' → Wg G I XX d mc ms Z pc' L (v.toList ++ st) M' (k + mc') (n + ms')) : Wg G I XX d mc ms Z pc L stk M k n := by
  obtain ⟨hd, rfl⟩ := hd
  obtain ⟨⟨i1, i2, i3, i4⟩, i5⟩ := hI
  intro hL hs0 p e s m args below meth c H locs Ls ad n0 ad0 X hW hS hlv hn0 hE
  obtain ⟨has, hst1⟩ := rev_ok hs hs0
  have hM := h has ad
  have hin : ∀ w ∈ va_wsS I.1.cls ix I'.1 (Cond.code I'.1 I'.2.1 I'.2.2.1 I'.2.2.2 :: WS), w ∈ WS := by
    intro w hw
    unfold va_wsS at hw
    simp only [List.mem_append, List.mem_cons, List.not_mem_nil, or_false] at hw
    rcases hw with (rfl | rfl | rfl) | rfl | hw
    · exact hl
    · exact i5
    · exact i1
    · exact i2
    · exact hw
  have hstk : stk.map (cv ad) = (as.map (cv ad)).reverse ++ st.map (cv ad) := by
    rw [hs, List.map_append, List.map_reverse]
  refine wg_back (mc' := mc') (ms' := ms') (va_runS (As := as.map (cv ad)) (rest := st.map (cv ad)) (nL := I.2.2.1) ⟨X.1, X.2.1, X.2.2.1, X.2.2.2.2.2.1, X.2.2.2.2.2.2.1⟩ hM (va_cwS np X.2.2.2.2.2.2.1 (ws_in hin) rfl rfl rfl i3 ⟨hd', by show 8 + (I'.2.2.1 + 11) + 40 * d' ≤ 40 * d; omega⟩) ⟨pco_blind, fun U hU hw => ⟨rfl, pco_at X hW hS hU hw⟩⟩ rfl (by rw [List.length_map]; exact hn) hlv.1 hstk (lv_room (cat_le hst)) hd hk) hS (fun v M' ad' H1 locs1 hQ hn1 hE1 hok hW1 hS1 => ?_)
  rw [ret_stack hE1 hst1]
  exact kk v M' hQ (fun u hu => vok_mono hn1 (hL u hu)) (vok_app hok (fun u hu => vok_mono hn1 (hst1 u hu))) p e s m args below meth c H1 locs1 Ls ad' n0 ad0 X hW1 hS1 (lv_subset hlv (al_alike hE1 hL)) (Nat.le_trans hn0 hn1) (AdE.tr hn0 hE hE1)
/-- a call of a nest mate's private static method -/
theorem wg_callSN {ix np d' mc' ms' : Nat} {host : String} {I' : MI} {as stk : List AV} {Qc : Option AV → MM → Prop} (hd : Dd I.2.1 pc (.invokestatic ix) 3 pc') (hlw : (I.1.cls, ix, I'.1, host) ∈ NWL) (hI : CSt I' np) (hs : stk = as.reverse ++ st) (hn : as.length = np) (hst : st.length ≤ 4) (hd' : d' + 1 ≤ d) (hk : k + mc' ≤ mc ∧ n + ms' ≤ ms)
    (h : Ok G I' d' mc' ms' as M Qc) (kk : ∀ (v : Option AV) (M' : MM), Qc v M' → Wg G I XX d mc ms Z pc' L (v.toList ++ st) M' (k + mc') (n + ms')) : Wg G I XX d mc ms Z pc L stk M k n := by
  obtain ⟨hd, rfl⟩ := hd
  obtain ⟨⟨i1, i2, i3, i4⟩, i5⟩ := hI
  intro hL hs0 p e s m args below meth c H locs Ls ad n0 ad0 X hW hS hlv hn0 hE
  obtain ⟨has, hst1⟩ := rev_ok hs hs0
  have hM := h has ad
  have hin : ∀ w ∈ (Cond.code I'.1 I'.2.1 I'.2.2.1 I'.2.2.2 :: WS), w ∈ WS := fun w hw => (List.mem_cons.mp hw).elim (fun e => by rw [e]; exact i2) id
  have hstk : stk.map (cv ad) = (as.map (cv ad)).reverse ++ st.map (cv ad) := by
    rw [hs, List.map_append, List.map_reverse]
  have hts := X.2.2.2.2.2.2.1
  refine wg_back (mc' := mc') (ms' := ms') (va_runSN (As := as.map (cv ad)) (rest := st.map (cv ad)) (nL := I.2.2.1) (host := host) ⟨X.1, X.2.1, X.2.2.1, X.2.2.2.2.2.1, X.2.2.2.2.2.2.1⟩ hM ⟨va_cnB np hts (ws_in hin) rfl rfl rfl (X.2.2.2.2.2.2.2.2.2.2.1.2.2.1 _ hlw) (hts _ i1) i3 ⟨hd', by show 8 + (I'.2.2.1 + 11) + 40 * d' ≤ 40 * d; omega⟩, hts _ i5, trivial⟩ ⟨pco_blind, fun U hU hw => ⟨rfl, pco_at X hW hS hU hw⟩⟩ rfl (by rw [List.length_map]; exact hn) hlv.1 hstk (lv_room (cat_le hst)) hd hk) hS (fun v M' ad' H1 locs1 hQ hn1 hE1 hok hW1 hS1 => ?_)
  rw [ret_stack hE1 hst1]
  exact kk v M' hQ (fun u hu => vok_mono hn1 (hL u hu)) (vok_app hok (fun u hu => vok_mono hn1 (hst1 u hu))) p e s m args below meth c H1 locs1 Ls ad' n0 ad0 X hW1 hS1 (lv_subset hlv (al_alike hE1 hL)) (Nat.le_trans hn0 hn1) (AdE.tr hn0 hE hE1)
/-- a call of a constructor -/
theorem wg_callI {ix q np d' mc' ms' : Nat} {I' : MI} {as stk : List AV} {Qc : Option AV → MM → Prop} (hd : Dd I.2.1 pc (.invokespecial ix) 3 pc') (hl : Cond.methodLink I.1.cls ix I'.1 ∈ WS) (hI : CCo I' np) (hr : I'.2.2.2 = none) (hs : stk = as.reverse ++ vR q :: st) (hn : as.length = np) (hst : st.length ≤ 4) (hq : kd q < 10) (hd' : d' + 1 ≤ d) (hk : k + mc' ≤ mc ∧ n + ms' ≤ ms)
    (h : Ok G I' d' mc' ms' (vR q :: as) M Qc) (kk : ∀ (v : Option AV) (M' : MM), Qc v M' → Wg G I XX d mc ms Z pc' L (v.toList ++ st) M' (k + mc') (n + ms')) : Wg G I XX d mc ms Z pc L stk M k n := by
  obtain ⟨hd, rfl⟩ := hd
  obtain ⟨⟨i1, i2, i3, i4⟩, i5, i6⟩ := hI
  intro hL hs0 p e s m args below meth c H locs Ls ad n0 ad0 X hW hS hlv hn0 hE
  obtain ⟨has, hst0⟩ := rev_ok hs hs0
  have hst1 := vok_tl hst0
  obtain ⟨q1, q2⟩ := kd_ok (by omega) (vok_hd hst0)
  have hM := h (vok_cons (vok_hd hst0) has) ad
  have e1 : (vR q :: as).map (cv ad) = Value.ref (ad q) :: as.map (cv ad) := by simp only [List.map_cons, cv, cr_pos q1]
  rw [e1] at hM
  have hin : ∀ w ∈ (Cond.code I'.1 I'.2.1 I'.2.2.1 none :: WS), w ∈ WS := fun w hw => (List.mem_cons.mp hw).elim (fun e => by rw [e, ← hr]; exact i2) id
  have hstk : stk.map (cv ad) = (as.map (cv ad)).reverse ++ Value.ref (ad q) :: st.map (cv ad) := by
    rw [hs, List.map_append, List.map_reverse, List.map_cons]
    simp only [cv, cr_pos q1]
  have hts := X.2.2.2.2.2.2.1
  rw [hr] at hM
  refine wg_back (mc' := mc') (ms' := ms') (va_runI (As := as.map (cv ad)) (rest := st.map (cv ad)) (nL := I.2.2.1) ⟨X.1, X.2.1, X.2.2.1, X.2.2.2.2.2.1, X.2.2.2.2.2.2.1⟩ hM ⟨callB_of np hts (ws_in hin) rfl rfl rfl (hts _ i1) (hts _ hl) i3 ⟨hd', by show 8 + (I'.2.2.1 + 11) + 40 * d' ≤ 40 * d; omega⟩, i6, hts _ i5⟩ ⟨pco_blind, fun U hU hw => ⟨rfl, pco_at X hW hS hU hw⟩⟩ rfl (by rw [List.length_map]; exact hn) hlv.1 hstk (lv_room (cat_le hst)) hd hk) hS (fun v M' ad' H1 locs1 hQ hn1 hE1 hok hW1 hS1 => ?_)
  rw [ret_stack hE1 hst1]
  exact kk v M' hQ (fun u hu => vok_mono hn1 (hL u hu)) (vok_app hok (fun u hu => vok_mono hn1 (hst1 u hu))) p e s m args below meth c H1 locs1 Ls ad' n0 ad0 X hW1 hS1 (lv_subset hlv (al_alike hE1 hL)) (Nat.le_trans hn0 hn1) (AdE.tr hn0 hE hE1)
/-- a call of a nest mate's private constructor -/
theorem wg_callIN {ix q np d' mc' ms' : Nat} {host : String} {I' : MI} {as stk : List AV} {Qc : Option AV → MM → Prop} (hd : Dd I.2.1 pc (.invokespecial ix) 3 pc') (hlw : (I.1.cls, ix, I'.1, host) ∈ NWL) (hI : CCo I' np) (hr : I'.2.2.2 = none) (hs : stk = as.reverse ++ vR q :: st) (hn : as.length = np) (hst : st.length ≤ 4) (hq : kd q < 10) (hd' : d' + 1 ≤ d) (hk : k + mc' ≤ mc ∧ n + ms' ≤ ms)
    (h : Ok G I' d' mc' ms' (vR q :: as) M Qc) (kk : ∀ (v : Option AV) (M' : MM), Qc v M' → Wg G I XX d mc ms Z pc' L (v.toList ++ st) M' (k + mc') (n + ms')) : Wg G I XX d mc ms Z pc L stk M k n := by
  obtain ⟨hd, rfl⟩ := hd
  obtain ⟨⟨i1, i2, i3, i4⟩, i5, i6⟩ := hI
  intro hL hs0 p e s m args below meth c H locs Ls ad n0 ad0 X hW hS hlv hn0 hE
  obtain ⟨has, hst0⟩ := rev_ok hs hs0
  have hst1 := vok_tl hst0
  obtain ⟨q1, q2⟩ := kd_ok (by omega) (vok_hd hst0)
  have hM := h (vok_cons (vok_hd hst0) has) ad
  have e1 : (vR q :: as).map (cv ad) = Value.ref (ad q) :: as.map (cv ad) := by simp only [List.map_cons, cv, cr_pos q1]
  rw [e1] at hM
  have hin : ∀ w ∈ (Cond.code I'.1 I'.2.1 I'.2.2.1 none :: WS), w ∈ WS := fun w hw => (List.mem_cons.mp hw).elim (fun e => by rw [e, ← hr]; exact i2) id
  have hstk : stk.map (cv ad) = (as.map (cv ad)).reverse ++ Value.ref (ad q) :: st.map (cv ad) := by
    rw [hs, List.map_append, List.map_reverse, List.map_cons]
    simp only [cv, cr_pos q1]
  have hts := X.2.2.2.2.2.2.1
  rw [hr] at hM
  refine wg_back (mc' := mc') (ms' := ms') (va_runIN (As := as.map (cv ad)) (rest := st.map (cv ad)) (nL := I.2.2.1) (host := host) ⟨X.1, X.2.1, X.2.2.1, X.2.2.2.2.2.1, X.2.2.2.2.2.2.1⟩ hM ⟨va_cnB np hts (ws_in hin) rfl rfl rfl (X.2.2.2.2.2.2.2.2.2.2.1.2.2.1 _ hlw) (hts _ i1) i3 ⟨hd', by show 8 + (I'.2.2.1 + 11) + 40 * d' ≤ 40 * d; omega⟩, i6, hts _ i5⟩ ⟨pco_blind, fun U hU hw => ⟨rfl, pco_at X hW hS hU hw⟩⟩ rfl (by rw [List.length_map]; exact hn) hlv.1 hstk (lv_room (cat_le hst)) hd hk) hS (fun v M' ad' H1 locs1 hQ hn1 hE1 hok hW1 hS1 => ?_)
  rw [ret_stack hE1 hst1]
  exact kk v M' hQ (fun u hu => vok_mono hn1 (hL u hu)) (vok_app hok (fun u hu => vok_mono hn1 (hst1 u hu))) p e s m args below meth c H1 locs1 Ls ad' n0 ad0 X hW1 hS1 (lv_subset hlv (al_alike hE1 hL)) (Nat.le_trans hn0 hn1) (AdE.tr hn0 hE hE1)
theorem wg_objInit {ix q : Nat} (hd : Dd I.2.1 pc (.invokespecial ix) 3 pc') (hl : Cond.methodLink I.1.cls ix Lib.objectInit ∈ WS) (hi : Cond.instanceMethod Lib.objectInit ∈ WS) (hc : Cond.code Lib.objectInit ⟨#[0xb1]⟩ 1 none ∈ WS) (hq : kd q < 10) (hst : st.length ≤ 4) (hd' : 1 ≤ d) (kk : Wg G I XX d mc ms Z pc' L st M k n) : Wg G I XX d mc ms Z pc L (vR q :: st) M k n := by
  obtain ⟨hd, rfl⟩ := hd
  intro hL hs p e s m args below meth c H locs Ls ad n0 ad0 X hW hS hlv hn0 hE
  obtain ⟨q1, q2⟩ := kd_ok (by omega) (vok_hd hs)
  have hts := X.2.2.2.2.2.2.1
  simp only [List.map_cons, cv, cr_pos q1]
  have hcat := cat_le (ad := ad) hst
  refine W.objInit X.1 X.2.1 X.2.2.2.2.2.1 (hts _ hl) (hts _ hi) (hts _ hc) rfl (by show Ls.size = _; rw [hlv.1, X.2.2.1]) rfl hd hd' (by show 2 * 0 + _ + 12 ≤ 40 * d; omega) ?_
  exact kk hL (vok_tl hs) p e s m args below meth c H locs Ls ad n0 ad0 X hW hS hlv hn0 hE
theorem wg_mmax {ix : Nat} {x y : Int} (hd : Dd I.2.1 pc (.invokestatic ix) 3 pc') (hl : Cond.methodLink I.1.cls ix Lib.Math.max.name ∈ WS) (h2 : Cond.static Lib.Math.max.name ∈ WS) (h3 : Cond.initialized "java/lang/Math" ∈ WS) (h4 : Cond.code Lib.Math.max.name Lib.Math.max.code 2 (some .int) ∈ WS) (hst : st.length ≤ 4) (hd' : 1 ≤ d) (hk : k ≤ mc ∧ n ≤ ms) (kk : Wg G I XX d mc ms Z pc' L (vI (if x < y then y else x) :: st) M k n) : Wg G I XX d mc ms Z pc L (vI y :: vI x :: st) M k n := by
  obtain ⟨hd, rfl⟩ := hd
  refine wg_stk (fun hL hs h32 _ => vcI (by split; exact vok_hd hs; exact vok_hd (vok_tl hs)) (vok_tl (vok_tl hs))) (fun p e s m args below meth c H locs Ls ad Q X hW hS hh hs z => ?_) kk
  have hts := X.2.2.2.2.2.2.1
  have hcat := cat_le (ad := ad) hst
  have hy : R32 y := vok_hd hs
  have hx : R32 x := vok_hd (vok_tl hs)
  refine va_mmax X.1 X.2.1 (by rw [hh.1, X.2.2.1]) X.2.2.2.2.2.1 (hts _ hl) (hts _ h2) (hts _ h3) (hts _ h4) hd' (by show _ + 13 ≤ 40 * d; omega) hk.1 hk.2 hd ?_
  have e1 : (if Int32.ofInt x < Int32.ofInt y then Int32.ofInt y else Int32.ofInt x) = Int32.ofInt (if x < y then y else x) := by
    simp only [o32_lt hx hy]
    split <;> rfl
  rw [e1]
  exact z
theorem wg_mmin {ix : Nat} {x y : Int} (hd : Dd I.2.1 pc (.invokestatic ix) 3 pc') (hl : Cond.methodLink I.1.cls ix Lib.Math.min.name ∈ WS) (h2 : Cond.static Lib.Math.min.name ∈ WS) (h3 : Cond.initialized "java/lang/Math" ∈ WS) (h4 : Cond.code Lib.Math.min.name Lib.Math.min.code 2 (some .int) ∈ WS) (hst : st.length ≤ 4) (hd' : 1 ≤ d) (hk : k ≤ mc ∧ n ≤ ms) (kk : Wg G I XX d mc ms Z pc' L (vI (if y < x then y else x) :: st) M k n) : Wg G I XX d mc ms Z pc L (vI y :: vI x :: st) M k n := by
  obtain ⟨hd, rfl⟩ := hd
  refine wg_stk (fun hL hs h32 _ => vcI (by split; exact vok_hd hs; exact vok_hd (vok_tl hs)) (vok_tl (vok_tl hs))) (fun p e s m args below meth c H locs Ls ad Q X hW hS hh hs z => ?_) kk
  have hts := X.2.2.2.2.2.2.1
  have hcat := cat_le (ad := ad) hst
  have hy : R32 y := vok_hd hs
  have hx : R32 x := vok_hd (vok_tl hs)
  refine va_mmin X.1 X.2.1 (by rw [hh.1, X.2.2.1]) X.2.2.2.2.2.1 (hts _ hl) (hts _ h2) (hts _ h3) (hts _ h4) hd' (by show _ + 13 ≤ 40 * d; omega) hk.1 hk.2 hd ?_
  have e1 : (if Int32.ofInt y < Int32.ofInt x then Int32.ofInt y else Int32.ofInt x) = Int32.ofInt (if y < x then y else x) := by
    simp only [o32_lt hy hx]
    split <;> rfl
  rw [e1]
  exact z
theorem wg_mmaxL {ix : Nat} {x y : Int} (hd : Dd I.2.1 pc (.invokestatic ix) 3 pc') (hl : Cond.methodLink I.1.cls ix Lib.MathLoose.max_long.x ∈ WS) (h2 : Cond.static Lib.MathLoose.max_long.x ∈ WS) (h3 : Cond.initialized "java/lang/Math" ∈ WS) (h4 : Cond.code Lib.MathLoose.max_long.x Lib.MathLoose.max_long.code 4 (some .long) ∈ WS) (hst : st.length ≤ 4) (hd' : 1 ≤ d) (hk : k ≤ mc ∧ n ≤ ms) (kk : Wg G I XX d mc ms Z pc' L (vL (if y < x then x else y) :: st) M k n) : Wg G I XX d mc ms Z pc L (vL y :: vL x :: st) M k n := by
  obtain ⟨hd, rfl⟩ := hd
  refine wg_stk (fun hL hs h32 _ => vcL (by split; exact vok_hd (vok_tl hs); exact vok_hd hs) (vok_tl (vok_tl hs))) (fun p e s m args below meth c H locs Ls ad Q X hW hS hh hs z => ?_) kk
  have hts := X.2.2.2.2.2.2.1
  have hcat := cat_le (ad := ad) hst
  have hy : R64 y := vok_hd hs
  have hx : R64 x := vok_hd (vok_tl hs)
  refine va_mmax_long X.1 X.2.1 (by rw [hh.1, X.2.2.1]) X.2.2.2.2.2.1 (hts _ hl) (hts _ h2) (hts _ h3) (hts _ h4) hd' (by show _ + 15 ≤ 40 * d; omega) hk.1 hk.2 hd ?_
  have e1 : (if Int64.ofInt y < Int64.ofInt x then Int64.ofInt x else Int64.ofInt y) = Int64.ofInt (if y < x then x else y) := by
    simp only [o64_lt hy hx]
    split <;> rfl
  rw [e1]
  exact z
-- new cells
def adN (ad : Nat → Nat) (q a : Nat) : Nat → Nat := fun j => if j = q then a else ad j
theorem adN_E {ad : Nat → Nat} {a : Nat} (h : M.1 < 700) (hk : kd (M.1 + 1) ≤ 12) : AdE M.1 ad (adN ad (M.1 + 1) a) := by
  have := (kd_in hk).2
  intro q hq
  unfold adN
  rw [if_neg (by omega)]
theorem ce_ext {cy : Nat → ClassId} {ad ad' : Nat → Nat} {M' : MM} {q : Nat} (h0 : AdE M.1 ad ad') (hr : ∀ p k, M.2.2 p k ≤ M.1) (h1 : ∀ j, M'.2.1 q j = M.2.1 q j) (h2 : ∀ j, M'.2.2 q j = M.2.2 q j) : ce cy ad' M' q = ce cy ad M q := by
  have e : ∀ j, ad' (M.2.2 q j) = ad (M.2.2 q j) := fun j => h0 _ (Or.inl (hr q j))
  unfold ce cr
  simp only [h1, h2, e]
theorem ww_new {ad : Nat → Nat} {H H1 : Heap} {a : Nat} {E : va_E} (hW : Ww G ad M H) (hk : kd (M.1 + 1) ≤ 12) (hE : ce G.2.2.1 (adN ad (M.1 + 1) a) (stN M) (M.1 + 1) = E)
    (hP : va_P G.2.1 cls (wl G ad M ++ [(a, E)]) H1) (hD : va_D (gA G) (wl G ad M ++ [(a, E)])) : Ww G (adN ad (M.1 + 1) a) (stN M) H1 := by
  have hle := (kd_in hk).2
  have hAd : AdE M.1 ad (adN ad (M.1 + 1) a) := adN_E hW.2.2.2.2.2 hk
  have e : wl G (adN ad (M.1 + 1) a) (stN M) = wl G ad M ++ [(a, E)] := by
    unfold wl
    show (List.range (M.1 + 1)).map _ = _
    rw [List.range_succ, List.map_append]
    congr 1
    · refine List.map_congr_left fun i hi => ?_
      have hi : i < M.1 := List.mem_range.mp hi
      have e1 : adN ad (M.1 + 1) a (i + 1) = ad (i + 1) := hAd _ (Or.inl (by omega))
      rw [e1, ce_ext (cy := G.2.2.1) hAd hW.2.2.2.1 (q := i + 1) (fun j => by show (if i + 1 = M.1 + 1 then _ else _) = _; rw [if_neg (by omega)]) (fun j => by show (if i + 1 = M.1 + 1 then _ else _) = _; rw [if_neg (by omega)])]
    · simp only [List.map_cons, List.map_nil]
      rw [hE]
      unfold adN
      rw [if_pos rfl]
  rw [← e] at hP hD
  refine ⟨hP, hD, fun p j => ?_, fun p j => ?_, fun q hq => ?_, by show M.1 + 1 < 700; omega⟩
  · show R32 (if p = M.1 + 1 then 0 else M.2.1 p j)
    split
    · exact z32
    · exact hW.2.2.1 p j
  · show (if p = M.1 + 1 then 0 else M.2.2 p j) ≤ M.1 + 1
    split
    · exact Nat.zero_le _
    · exact Nat.le_succ_of_le (hW.2.2.2.1 p j)
  · rw [hAd q (Or.inr hq)]
    exact hW.2.2.2.2.1 q hq
theorem wg_new {ix ci N : Nat} (hd : Dd I.2.1 pc (.new ix) 3 pc') (hw : NW I ix ci N) (hq : kd (M.1 + 1) = ci) (hk : k + 1 ≤ mc ∧ n + N ≤ ms) (kk : Wg G I XX d mc ms Z pc' L (vR (M.1 + 1) :: st) (stN M) (k + 1) (n + N)) : Wg G I XX d mc ms Z pc L st M k n := by
  obtain ⟨hd, rfl⟩ := hd
  obtain ⟨C, T, f1, f2, f3, f4, f5, f6, f7, f8, f9⟩ := hw
  intro hL hs p e s m args below meth c H locs Ls ad n0 ad0 X hW hS hlv hn0 hE
  have hts := X.2.2.2.2.2.2.1
  refine va_new (fs := (List.range N).map (fun j => if isr ci j then .null else .int 0)) X.1 X.2.1 hts f6 (tyc ci) f7 X.2.2.2.2.2.1 (hts _ f3) (hts _ f4) (hts _ f5) X.2.2.2.2.2.2.2.1 hW.1 hW.2.1 hS (fun q h => Nat.le_trans X.2.2.2.2.2.2.2.2.1 h) f1 (fun j hj => ?_) hk.1 hk.2 hd (fun a H1 hP1 hD1 hS1 => ?_)
  · show _ = ((List.range N).map (fun j => if isr ci j then Value.null else Value.int 0)).getD j Value.null
    rw [List.getD_eq_getElem?_getD, List.getElem?_map, List.getElem?_range hj]
    have h8 := f8 j hj
    show defaultValue (tyc ci j) = if isr ci j then .null else .int 0
    unfold isr
    cases h9 : tyc ci j <;> rw [h9] at h8 <;> first | rfl | (simp [okty] at h8)
  · have hAd : AdE M.1 ad (adN ad (M.1 + 1) a) := adN_E hW.2.2.2.2.2 (by omega)
    have e1 : cv (adN ad (M.1 + 1) a) (vR (M.1 + 1)) = .ref a := by
      show cr _ _ = _
      rw [cr_pos (by omega)]
      unfold adN
      rw [if_pos rfl]
    rw [← e1, ← st_alike hAd hs]
    have hvr : ∀ v ∈ vR (M.1 + 1) :: st, vok (stN M).1 v := vcR (Or.inl (Nat.le_refl _)) (fun v hv => vok_mono (Nat.le_succ _) (hs v hv))
    refine kk (fun v hv => vok_mono (Nat.le_succ _) (hL v hv)) hvr p e s m args below meth c H1 locs Ls (adN ad (M.1 + 1) a) n0 ad0 X (ww_new hW (by omega) ?_ hP1 hD1) hS1 (lv_subset hlv (al_alike hAd hL)) (Nat.le_succ_of_le hn0) (AdE.tr hn0 hE hAd)
    rw [ce_obj (by omega), hq]
    congr 2
    unfold fsl
    rw [hq, f2]
    refine List.map_congr_left fun j _ => ?_
    have e2 : (stN M).2.1 (M.1 + 1) j = 0 := by show (if M.1 + 1 = M.1 + 1 then _ else _) = _; rw [if_pos rfl]
    have e3 : (stN M).2.2 (M.1 + 1) j = 0 := by show (if M.1 + 1 = M.1 + 1 then _ else _) = _; rw [if_pos rfl]
    rw [e2, e3]
    rfl
theorem wg_newI {N : Nat} {i : Int} (hd : Dd I.2.1 pc (.newarray .int) 2 pc') (hw : Cond.arrayClass .int ∈ WS) (hq : kd (M.1 + 1) = 10) (hi : i = (N : Int)) (hN : ln (M.1 + 1) = N) (hk : k + 1 ≤ mc ∧ n + N ≤ ms) (kk : Wg G I XX d mc ms Z pc' L (vR (M.1 + 1) :: st) (stN M) (k + 1) (n + N)) : Wg G I XX d mc ms Z pc L (vI i :: st) M k n := by
  obtain ⟨hd, rfl⟩ := hd
  subst hi
  intro hL hs0 p e s m args below meth c H locs Ls ad n0 ad0 X hW hS hlv hn0 hE
  have hs := vok_tl hs0
  have hts := X.2.2.2.2.2.2.1
  have hN2 := ln_le (M.1 + 1)
  have e0 : (Int32.ofInt (N : Int)).toInt = N := o32_t ⟨by omega, by omega⟩
  have hnn : ¬ Int32.ofInt (N : Int) < 0 := by
    rw [Int32.lt_iff_toInt_lt, e0, Int32.toInt_zero]
    omega
  have hcl : (Int32.ofInt (N : Int)).toNatClampNeg = N := by
    show (Int32.ofInt (N : Int)).toInt.toNat = N
    rw [e0]
    omega
  refine va_newa (a0 := (N, .inl (fun _ => 0))) (atype := .int) X.1 X.2.1 (hts _ hw) rfl X.2.2.2.2.2.2.2.1 hW.1 hW.2.1 hS (fun q h => Nat.le_trans X.2.2.2.2.2.2.2.2.1 h) (fun cA => rfl) hnn hcl (by show N * 4 ≤ 536870912; omega) hk.1 hk.2 hd (fun a cA H1 hK1 hP1 hD1 hS1 => ?_)
  have hc : cA = G.2.2.1 10 := by
    have h1 := (hK1.2 3 (cA, .int) rfl).2
    have h2 := (hK1.2 0 (G.2.2.1 10, .int) rfl).2
    exact Option.some.inj ((va_nm_int h1).symm.trans (va_nm_int h2))
  subst hc
  have hAd : AdE M.1 ad (adN ad (M.1 + 1) a) := adN_E hW.2.2.2.2.2 (by omega)
  have e1 : cv (adN ad (M.1 + 1) a) (vR (M.1 + 1)) = .ref a := by
    show cr _ _ = _
    rw [cr_pos (by omega)]
    unfold adN
    rw [if_pos rfl]
  rw [← e1, ← st_alike hAd hs]
  have hvr : ∀ v ∈ vR (M.1 + 1) :: st, vok (stN M).1 v := vcR (Or.inl (Nat.le_refl _)) (fun v hv => vok_mono (Nat.le_succ _) (hs v hv))
  refine kk (fun v hv => vok_mono (Nat.le_succ _) (hL v hv)) hvr p e s m args below meth c H1 locs Ls (adN ad (M.1 + 1) a) n0 ad0 X (ww_new hW (by omega) ?_ hP1 hD1) hS1 (lv_subset hlv (al_alike hAd hL)) (Nat.le_succ_of_le hn0) (AdE.tr hn0 hE hAd)
  rw [ce_int hq, hN]
  congr 4
  funext j
  have e2 : (stN M).2.1 (M.1 + 1) j = 0 := by show (if M.1 + 1 = M.1 + 1 then _ else _) = _; rw [if_pos rfl]
  rw [e2]
  rfl
theorem wg_newZ {N : Nat} {i : Int} (hd : Dd I.2.1 pc (.newarray .boolean) 2 pc') (hw : Cond.arrayClass .boolean ∈ WS) (hq : kd (M.1 + 1) = 11) (hi : i = (N : Int)) (hN : ln (M.1 + 1) = N) (hk : k + 1 ≤ mc ∧ n + N ≤ ms) (kk : Wg G I XX d mc ms Z pc' L (vR (M.1 + 1) :: st) (stN M) (k + 1) (n + N)) : Wg G I XX d mc ms Z pc L (vI i :: st) M k n := by
  obtain ⟨hd, rfl⟩ := hd
  subst hi
  intro hL hs0 p e s m args below meth c H locs Ls ad n0 ad0 X hW hS hlv hn0 hE
  have hs := vok_tl hs0
  have hts := X.2.2.2.2.2.2.1
  have hN2 := ln_le (M.1 + 1)
  have e0 : (Int32.ofInt (N : Int)).toInt = N := o32_t ⟨by omega, by omega⟩
  have hnn : ¬ Int32.ofInt (N : Int) < 0 := by
    rw [Int32.lt_iff_toInt_lt, e0, Int32.toInt_zero]
    omega
  have hcl : (Int32.ofInt (N : Int)).toNatClampNeg = N := by
    show (Int32.ofInt (N : Int)).toInt.toNat = N
    rw [e0]
    omega
  refine va_newa (a0 := (N, .inl (fun _ => 0))) (atype := .boolean) X.1 X.2.1 (hts _ hw) rfl X.2.2.2.2.2.2.2.1 hW.1 hW.2.1 hS (fun q h => Nat.le_trans X.2.2.2.2.2.2.2.2.1 h) (fun cA => rfl) hnn hcl (by show N * 1 ≤ 536870912; omega) hk.1 hk.2 hd (fun a cA H1 hK1 hP1 hD1 hS1 => ?_)
  have hc : cA = G.2.2.1 11 := by
    have h1 := (hK1.2 3 (cA, .boolean) rfl).2
    have h2 := (hK1.2 1 (G.2.2.1 11, .boolean) rfl).2
    exact Option.some.inj ((va_nm_boolean h1).symm.trans (va_nm_boolean h2))
  subst hc
  have hAd : AdE M.1 ad (adN ad (M.1 + 1) a) := adN_E hW.2.2.2.2.2 (by omega)
  have e1 : cv (adN ad (M.1 + 1) a) (vR (M.1 + 1)) = .ref a := by
    show cr _ _ = _
    rw [cr_pos (by omega)]
    unfold adN
    rw [if_pos rfl]
  rw [← e1, ← st_alike hAd hs]
  have hvr : ∀ v ∈ vR (M.1 + 1) :: st, vok (stN M).1 v := vcR (Or.inl (Nat.le_refl _)) (fun v hv => vok_mono (Nat.le_succ _) (hs v hv))
  refine kk (fun v hv => vok_mono (Nat.le_succ _) (hL v hv)) hvr p e s m args below meth c H1 locs Ls (adN ad (M.1 + 1) a) n0 ad0 X (ww_new hW (by omega) ?_ hP1 hD1) hS1 (lv_subset hlv (al_alike hAd hL)) (Nat.le_succ_of_le hn0) (AdE.tr hn0 hE hAd)
  rw [ce_bool hq, hN]
  congr 4
  funext j
  have e2 : (stN M).2.1 (M.1 + 1) j = 0 := by show (if M.1 + 1 = M.1 + 1 then _ else _) = _; rw [if_pos rfl]
  rw [e2]
  rfl
theorem wg_newQ {ix N : Nat} {i : Int} (hd : Dd I.2.1 pc (.anewarray ix) 3 pc') (hw : Cond.classLink I.1.cls ix RX5 ∈ WS) (hq : kd (M.1 + 1) = 12) (hi : i = (N : Int)) (hN : ln (M.1 + 1) = N) (hk : k + 1 ≤ mc ∧ n + N ≤ ms) (kk : Wg G I XX d mc ms Z pc' L (vR (M.1 + 1) :: st) (stN M) (k + 1) (n + N)) : Wg G I XX d mc ms Z pc L (vI i :: st) M k n := by
  obtain ⟨hd, rfl⟩ := hd
  subst hi
  intro hL hs0 p e s m args below meth c H locs Ls ad n0 ad0 X hW hS hlv hn0 hE
  have hs := vok_tl hs0
  have hts := X.2.2.2.2.2.2.1
  have hN2 := ln_le (M.1 + 1)
  have e0 : (Int32.ofInt (N : Int)).toInt = N := o32_t ⟨by omega, by omega⟩
  have hnn : ¬ Int32.ofInt (N : Int) < 0 := by
    rw [Int32.lt_iff_toInt_lt, e0, Int32.toInt_zero]
    omega
  have hcl : (Int32.ofInt (N : Int)).toNatClampNeg = N := by
    show (Int32.ofInt (N : Int)).toInt.toNat = N
    rw [e0]
    omega
  refine va_newq X.1 X.2.1 X.2.2.2.2.2.1 (hts _ hw) X.2.2.2.2.2.2.2.2.2.2.1.2.2.2.1 X.2.2.2.2.2.2.2.1 hW.1 hW.2.1 hS (fun q h => Nat.le_trans X.2.2.2.2.2.2.2.2.1 h) hnn hcl (by show N * 4 ≤ 536870912; omega) hk.1 hk.2 hd (fun a cA H1 hK1 hP1 hD1 hS1 => ?_)
  have hc : cA = G.2.2.1 12 := by
    obtain ⟨-, -, -, -, -, h1⟩ := (hK1.2 3 (cA, .object RX5) rfl).2
    obtain ⟨-, -, -, -, -, h2⟩ := (hK1.2 2 (G.2.2.1 12, .object RX5) rfl).2
    exact Option.some.inj (h1.symm.trans h2)
  subst hc
  have hAd : AdE M.1 ad (adN ad (M.1 + 1) a) := adN_E hW.2.2.2.2.2 (by omega)
  have e1 : cv (adN ad (M.1 + 1) a) (vR (M.1 + 1)) = .ref a := by
    show cr _ _ = _
    rw [cr_pos (by omega)]
    unfold adN
    rw [if_pos rfl]
  rw [← e1, ← st_alike hAd hs]
  have hvr : ∀ v ∈ vR (M.1 + 1) :: st, vok (stN M).1 v := vcR (Or.inl (Nat.le_refl _)) (fun v hv => vok_mono (Nat.le_succ _) (hs v hv))
  refine kk (fun v hv => vok_mono (Nat.le_succ _) (hL v hv)) hvr p e s m args below meth c H1 locs Ls (adN ad (M.1 + 1) a) n0 ad0 X (ww_new hW (by omega) ?_ hP1 hD1) hS1 (lv_subset hlv (al_alike hAd hL)) (Nat.le_succ_of_le hn0) (AdE.tr hn0 hE hAd)
  rw [ce_ref hq, hN]
  congr 7
  funext j
  have e2 : (stN M).2.2 (M.1 + 1) j = 0 := by show (if M.1 + 1 = M.1 + 1 then _ else _) = _; rw [if_pos rfl]
  rw [e2, if_pos rfl]
end WC
section WE
variable {G : GG} {I : MI} {d mc ms : Nat} {pc pc' : Nat} {L : List (Option AV)} {st : List AV} {M : MM} {k n : Nat} {Q : Option AV → MM → Prop}
theorem qco_end {p : Program} {s : State} {m : MethodId} {args : Array Value} {meth : Method} {c : Code} {H : Heap} {locs : List Loc} {ad ad0 : Nat → Nat} {n0 : Nat} (hW : Ww G ad M H) (hS : va_S (gA G) s.heap H locs) (hn : n0 ≤ M.1) (hE : AdE n0 ad0 ad) {v : Option AV} (hv : ∀ x, v = some x → vok M.1 x) (hQ : Q v M) {a : Array Value} {t : State} (ht : t.heap = H) : QcO G n0 ad0 Q a s (.returned (v.map (cv ad))) t :=
  ⟨⟨v, M, ad, rfl, hQ, hn, hE, hv, by rw [ht]; exact hW⟩, hS.F ht⟩
theorem wp_iret {x : Int} (hr : I.2.2.2 = some .int) (hd : Dd I.2.1 pc (.ireturn) 1 pc') (hk : k ≤ mc ∧ n ≤ ms) (h : Q (some (vI x)) M) : Wp G I d mc ms pc L [vI x] M k n Q := by
  obtain ⟨hd, -⟩ := hd
  intro hL hs p e s m args below meth c H locs Ls ad n0 ad0 X hW hS hl hn hE
  refine W.widen (k := mc) (n := ms) hk.1 hk.2 ?_
  exact W.iret X.1 X.2.1 (X.2.2.2.1.trans hr) (fun t ht _ => qco_end (p := p) (m := m) (args := args) (meth := meth) (c := c) hW hS hn hE (v := some (vI x)) (fun y hy => by cases hy; exact vok_hd hs) h ht) hS.2.2 hd (hlocks := X.2.2.2.2.1)
theorem wp_zret {x : Int} (hr : I.2.2.2 = some .boolean) (hd : Dd I.2.1 pc (.ireturn) 1 pc') (hk : k ≤ mc ∧ n ≤ ms) (hx : x = 0 ∨ x = 1) (h : Q (some (vI x)) M) : Wp G I d mc ms pc L [vI x] M k n Q := by
  obtain ⟨hd, -⟩ := hd
  intro hL hs p e s m args below meth c H locs Ls ad n0 ad0 X hW hS hl hn hE
  refine W.widen (k := mc) (n := ms) hk.1 hk.2 ?_
  exact W.zret X.1 X.2.1 (X.2.2.2.1.trans hr) (by rcases hx with z | z <;> subst z <;> rfl) (fun t ht _ => qco_end (p := p) (m := m) (args := args) (meth := meth) (c := c) hW hS hn hE (v := some (vI x)) (fun y hy => by cases hy; exact vok_hd hs) h ht) hS.2.2 hd (hlocks := X.2.2.2.2.1)
theorem wp_cret {x : Int} (hr : I.2.2.2 = some .char) (hd : Dd I.2.1 pc (.ireturn) 1 pc') (hk : k ≤ mc ∧ n ≤ ms) (hx : 0 ≤ x ∧ x < 65536) (h : Q (some (vI x)) M) : Wp G I d mc ms pc L [vI x] M k n Q := by
  obtain ⟨hd, -⟩ := hd
  intro hL hs p e s m args below meth c H locs Ls ad n0 ad0 X hW hS hl hn hE
  refine W.widen (k := mc) (n := ms) hk.1 hk.2 ?_
  refine W.zret X.1 X.2.1 (X.2.2.2.1.trans hr) ?_ (fun t ht _ => qco_end (p := p) (m := m) (args := args) (meth := meth) (c := c) hW hS hn hE (v := some (vI x)) (fun y hy => by cases hy; exact vok_hd hs) h ht) hS.2.2 hd (hlocks := X.2.2.2.2.1)
  obtain ⟨j, rfl⟩ : ∃ j : Nat, x = (j : Int) := ⟨x.toNat, by omega⟩
  rw [Int32.ofInt_eq_ofNat]
  exact (pk_charN (q := j) (by omega)).1
theorem wp_lret {x : Int} (hr : I.2.2.2 = some .long) (hd : Dd I.2.1 pc (.lreturn) 1 pc') (hk : k ≤ mc ∧ n ≤ ms) (h : Q (some (vL x)) M) : Wp G I d mc ms pc L [vL x] M k n Q := by
  obtain ⟨hd, -⟩ := hd
  intro hL hs p e s m args below meth c H locs Ls ad n0 ad0 X hW hS hl hn hE
  refine W.widen (k := mc) (n := ms) hk.1 hk.2 ?_
  exact W.lret X.1 X.2.1 (X.2.2.2.1.trans hr) (fun t ht _ => qco_end (p := p) (m := m) (args := args) (meth := meth) (c := c) hW hS hn hE (v := some (vL x)) (fun y hy => by cases hy; exact vok_hd hs) h ht) hS.2.2 hd (hlocks := X.2.2.2.2.1)
theorem wp_vret (hr : I.2.2.2 = none) (hd : Dd I.2.1 pc (.return_) 1 pc') (hk : k ≤ mc ∧ n ≤ ms) (h : Q none M) : Wp G I d mc ms pc L [] M k n Q := by
  obtain ⟨hd, -⟩ := hd
  intro hL hs p e s m args below meth c H locs Ls ad n0 ad0 X hW hS hl hn hE
  refine W.widen (k := mc) (n := ms) hk.1 hk.2 ?_
  exact W.vret X.1 X.2.1 (X.2.2.2.1.trans hr) (fun t ht _ => qco_end (p := p) (m := m) (args := args) (meth := meth) (c := c) hW hS hn hE (v := none) (fun y hy => by cases hy) h ht) hS.2.2 hd (hlocks := X.2.2.2.2.1)
/-- the locals at a method's entry -/
def ent : List AV → Nat → List (Option AV)
  | [], n => List.replicate n none
  | v :: vs, n => if wide v then some v :: none :: ent vs (n - 2) else some v :: ent vs (n - 1)
def elen : List AV → Nat
  | [] => 0
  | v :: vs => (if wide v then 2 else 1) + elen vs
theorem ent_args {ad : Nat → Nat} : ∀ (as : List AV) (N i : Nat) (v : AV) (j : Nat), (ent as N)[i]? = some (some v) → (j + i, cv ad v) ∈ lv_args j (as.map (cv ad)) := by
  intro as
  induction as with
  | nil =>
    intro N i v j h
    simp [ent, List.getElem?_replicate] at h
  | cons a as ih =>
    intro N i v j h
    rw [List.map_cons, lv_args, cv_cat]
    unfold ent at h
    cases hw : wide a
    · rw [hw] at h
      simp only [Bool.false_eq_true, if_false] at h ⊢
      cases i with
      | zero =>
        simp at h
        rw [h]
        exact List.mem_cons_self
      | succ i =>
        rw [List.getElem?_cons_succ] at h
        have := ih (N - 1) i v (j + 1) h
        rw [show j + 1 + i = j + (i + 1) by omega] at this
        rw [if_neg (by decide)]
        exact List.mem_cons_of_mem _ this
    · rw [hw] at h
      simp only [if_true] at h ⊢
      cases i with
      | zero =>
        simp at h
        rw [h]
        exact List.mem_cons_self
      | succ i =>
        rw [List.getElem?_cons_succ] at h
        cases i with
        | zero => simp at h
        | succ i =>
          rw [List.getElem?_cons_succ] at h
          have := ih (N - 2) i v (j + 2) h
          rw [show j + 2 + i = j + (i + 1 + 1) by omega] at this
          exact List.mem_cons_of_mem _ this
theorem ent_ok {N0 : Nat} : ∀ (as : List AV) (N : Nat), (∀ v ∈ as, vok N0 v) → ∀ v, some v ∈ ent as N → vok N0 v := by
  intro as
  induction as with
  | nil =>
    intro N h v hv
    simp [ent] at hv
  | cons a as ih =>
    intro N h v hv
    unfold ent at hv
    cases hw : wide a
    · rw [hw] at hv
      simp only [Bool.false_eq_true, if_false] at hv
      rcases List.mem_cons.mp hv with e | e
      · cases e; exact h _ List.mem_cons_self
      · exact ih _ (fun u hu => h u (List.mem_cons_of_mem _ hu)) v e
    · rw [hw] at hv
      simp only [if_true] at hv
      rcases List.mem_cons.mp hv with e | e
      · cases e; exact h _ List.mem_cons_self
      · rcases List.mem_cons.mp e with e | e
        · cases e
        · exact ih _ (fun u hu => h u (List.mem_cons_of_mem _ hu)) v e
theorem elen_sl {ad : Nat → Nat} : ∀ as : List AV, (lg_sl (as.map (cv ad))).length = elen as := by
  intro as
  induction as with
  | nil => rfl
  | cons a as ih =>
    rw [List.map_cons]
    unfold lg_sl at ih ⊢
    rw [List.flatMap_cons, List.length_append, ih, cv_cat]
    rw [show elen (a :: as) = (if wide a then 2 else 1) + elen as from rfl]
    cases wide a <;> rfl
theorem Ok_of {as : List AV} {L : List (Option AV)} (hy : plainName I.1.cls = true) (hn : elen as ≤ I.2.2.1) (hL : ent as I.2.2.1 = L) (h : Wp G I d mc ms 0 L [] M 0 0 Q) : Ok G I d mc ms as M Q := by
  intro hv ad
  subst hL
  refine Met.ofW (cc := I.2.1) (maxL := I.2.2.1) (ret := I.2.2.2) hy rfl ?_
  intro p e s m args below meth c s₁ B hml hPc
  obtain ⟨rfl, hB0, hK, hXS, hW⟩ := hPc
  have hts := atoms_spec (ws := .code I.1 I.2.1 I.2.2.1 I.2.2.2 :: WS) B.pre
  rw [lg_entry_eq]
  have hl := lv_entry (as.map (cv ad)) (n := I.2.2.1) (by rw [elen_sl]; exact hn)
  refine h (ent_ok as _ hv) (fun v hv => absurd hv List.not_mem_nil) p e s m _ below meth c s.heap [] _ ad M.1 ad ⟨B.exec, B.bytes, hml, B.returns, B.notSynchronized, findClass_of_methodNamed B.named, fun w hw => hts w (List.mem_cons_of_mem _ hw), hK, hB0, (name_of_methodNamed B.named B.method).1, hXS, trivial⟩ hW va_S.rf (lv_subset hl fun q hq => ?_) (Nat.le_refl _) AdE.rf
  obtain ⟨v, h1, h2⟩ := al_mem.mp hq
  have := ent_args (ad := ad) as I.2.2.1 q.1 v 0 h1
  rw [Nat.zero_add, ← h2] at this
  exact this
end WE
