/-! ===== the law's start; the claim ===== -/
theorem room_less {s : State} {pl : Platform} {r r' : Room} (hf : r.frames ≤ r'.frames) (hl : r.locals ≤ r'.locals) (hc : r.cells ≤ r'.cells) (hs : r.slots ≤ r'.slots) (h : s.hasRoom pl r' = true) : s.hasRoom pl r = true := by
  simp only [State.hasRoom, Bool.and_eq_true, decide_eq_true_eq] at h ⊢
  obtain ⟨⟨⟨⟨y, a, b, c, d, e⟩, f⟩, g⟩, i⟩ := h
  exact ⟨⟨⟨⟨by omega, by omega, by omega, by omega, by omega, e⟩, by omega⟩, by omega⟩, i⟩
/-- a walk that goes in a smaller room goes in a larger one -/
theorem w_room {p : Program} {l : Launch} {e : Env} {R R' : Room} {s : State} {m : MethodId} {args : Array Value} {below : List Frame} {meth : Method} {c : Code} {H : Heap} {locs : List Loc} {cells slots : Nat} {Q : State → Prop} {g : JFrame} (hf : R'.frames ≤ R.frames) (hl : R'.locals ≤ R.locals) (hc : R'.cells ≤ R.cells) (hs : R'.slots ≤ R.slots) (kk : W p l e R' s m args below meth c H locs cells slots Q g) : W p l e R s m args below meth c H locs cells slots Q g :=
  fun T hT X => kk T hT ⟨X.admits, X.cas, X.clock, X.frames, room_less hf hl hc hs X.room, X.hears, X.method, X.code, X.here, X.tail, X.warmed, X.limits, X.bytes, X.same⟩
theorem kn_of {I : MI} {ix ci N : Nat} {s : State} {args : Array Value} (h : NW I ix ci N) (hW : ∀ w ∈ WS, w.before args s = true) : ∃ q : ClassId × (Nat → Nat), ∀ r, cls[ci]? = some r → u_Kn s r.1 r.2.1 r.2.2 q.1 q.2 := by
  obtain ⟨C, T, h1, h2, h3, h4, h5, h6, h7⟩ := h
  obtain ⟨cC, iS, hk⟩ := u_known (C := C) (T := T) (N := N) (n := N) hW h6 (hW _ h4)
  refine ⟨(cC, iS), fun r hr => ?_⟩
  rw [h1] at hr
  cases hr
  exact hk
theorem kn_all {s : State} {args : Array Value} (hW : ∀ w ∈ WS, w.before args s = true) : ∃ D : va_G, ∀ (c : Nat) (q : vw_C), cls[c]? = some q → u_Kn s q.1 q.2.1 q.2.2 (D.1 c) (D.2 c) := by
  have h0 : ∀ k : Nat, ∃ q : ClassId × (Nat → Nat), ∀ r, cls[k]? = some r → u_Kn s r.1 r.2.1 r.2.2 q.1 q.2 := by
    intro k
    match k with
    | 0 => exact kn_of (nw_X8_73 (I := mX8_init) rfl) hW
    | 1 => exact kn_of (nw_X8_7 (I := mX8_init) rfl) hW
    | 2 => exact kn_of (nw_X8_52 (I := mX8_init) rfl) hW
    | 3 => exact kn_of (nw_X8_64 (I := mX8_init) rfl) hW
    | 4 => exact kn_of (nw_X8_16 (I := mX8_init) rfl) hW
    | 5 => exact kn_of (nw_X8_42 (I := mX8_init) rfl) hW
    | 6 => exact kn_of (nw_X8_35 (I := mX8_init) rfl) hW
    | 7 => exact kn_of (nw_X8_25 (I := mX8_init) rfl) hW
    | 8 => exact kn_of (nw_L_7 (I := mL) rfl) hW
    | 9 => exact kn_of (nw_L_10 (I := mL) rfl) hW
    | k + 10 =>
      refine ⟨(0, fun _ => 0), fun r hr => ?_⟩
      rw [List.getElem?_eq_none (by show 10 ≤ k + 10; omega)] at hr
      cases hr
  obtain ⟨ad, had⟩ := Classical.axiomOfChoice h0
  exact ⟨(fun k => (ad k).1, fun k => (ad k).2), had⟩
/-- what holds at the law's entry -/
def lw_At (p : Program) (s : State) (m : MethodId) (meth : Method) (c : Code) (b L : Nat) (xs : Nat → Int32) : Prop :=
  p.tables.exec = Jvm.exec ∧ c.code = code ∧ meth.sig.returnType = ret ∧ c.maxLocals = 4 ∧ s.vm.findClass R_law = some m.cls ∧ (∀ w ∈ lw_tbl, w.before #[Value.ref b] s = true) ∧ va_X b L xs s s.heap ∧ b < s.heap.size ∧ meth.locks = false ∧ (Jvm.Cond.and given_1 narrow_1).before #[Value.ref b] s = true ∧ meth.name = "law"
abbrev tS : Term := .string "RibbonOfLacks" 80
abbrev tSv : Term := .field tS "java/lang/String" "value" "[B"
theorem fl_ex : Cond.exactly tS "java/lang/String" ∈ flatC (Jvm.Cond.and given_1 narrow_1) := by decide +kernel
theorem fl_co : Cond.eq (.field tS "java/lang/String" "coder" "B") (.int 0) ∈ flatC (Jvm.Cond.and given_1 narrow_1) := by decide +kernel
theorem fl_ar : Cond.arrayOf tSv .byte ∈ flatC (Jvm.Cond.and given_1 narrow_1) := by decide +kernel
theorem fl_le : Cond.eq (.length tSv) (.int 81) ∈ flatC (Jvm.Cond.and given_1 narrow_1) := by decide +kernel
theorem fl_el : ∀ j : Nat, j < 81 → Cond.eq (.elem tSv (.int (Int32.ofNat j))) (.int (txB.getD j 0)) ∈ flatC (Jvm.Cond.and given_1 narrow_1) := by decide +kernel
theorem fl_cs : Cond.eq (.static "java/lang/String" "COMPACT_STRINGS" "Z") (.int 1) ∈ flatC (Jvm.Cond.and given_1 narrow_1) := by decide +kernel
theorem fl_si : Cond.isRef (.static "jdk/internal/util/Preconditions" "SIOOBE_FORMATTER" "Ljava/util/function/BiFunction;") ∈ flatC (Jvm.Cond.and given_1 narrow_1) := by decide +kernel
theorem tb_sr : Cond.stringRef RX8 80 tx0 ∈ lw_tbl := by decide +kernel
theorem tb_ao : Cond.arrayOver (.object RX5) ∈ lw_tbl := by decide +kernel
theorem tb_lc : Cond.laysStatic "java/lang/String" "COMPACT_STRINGS" "Z" ∈ lw_tbl := by decide +kernel
theorem tb_ls : Cond.laysStatic "jdk/internal/util/Preconditions" "SIOOBE_FORMATTER" "Ljava/util/function/BiFunction;" ∈ lw_tbl := by decide +kernel
theorem tb_is : Cond.initialized "java/lang/String" ∈ lw_tbl := by decide +kernel
theorem tb_ip : Cond.initialized "jdk/internal/util/Preconditions" ∈ lw_tbl := by decide +kernel
theorem tb_nw : ∀ q ∈ NWL, Cond.methodLinkNest q.1 q.2.1 q.2.2.1 q.2.2.2 ∈ lw_tbl := by decide +kernel
/-- a static that is a reference or null -/
theorem sio_of {args : Array Value} {s : State} {A : Nat → Prop} (hl : (Cond.laysStatic "jdk/internal/util/Preconditions" "SIOOBE_FORMATTER" "Ljava/util/function/BiFunction;").before args s = true) (hini : (Cond.initialized "jdk/internal/util/Preconditions").before args s = true) (hv : (Cond.isRef (.static "jdk/internal/util/Preconditions" "SIOOBE_FORMATTER" "Ljava/util/function/BiFunction;")).before args s = true) (hA : ∀ a : Nat, a < s.heap.size → ¬ A a) : ∃ a : Nat, SioZ a A s s.heap := by
  obtain ⟨v, h1, h2⟩ := Cond.isRef_spec (args := args) (first := s) (o := none) (s := s) (idx := []) hv
  have hz := va_Zof hl hini h1 hA
  cases v with
  | ref a => exact ⟨a, _, Or.inr rfl, hz⟩
  | null => exact ⟨0, _, Or.inl rfl, hz⟩
  | int x => cases h2
  | long x => cases h2
  | float x => cases h2
  | double x => cases h2
  | retAddr x => cases h2
set_option maxRecDepth 100000 in
theorem whole_start {p : Program} {e : Env} {s : State} {m : MethodId} {below : List Frame} {meth : Method} {c : Code} (l : Launch) {b L : Nat} {xs : Nat → Int32} (hL : L ≤ 320) (C0 : lw_At p s m meth c b L xs) : W p l e room_1 s m #[Value.ref b] below meth c s.heap [] 0 0 (lw_Z below #[Value.ref b] s) (entryFrame m ([Value.ref b] : List Value).toArray 4) := by
  obtain ⟨hx, hb, hr, hml, hown, hts, hX, hbl, hlocks, hgv, hnm⟩ := id C0
  have hs := flat_of_before _ hgv
  have hWS : ∀ w ∈ WS, w.before #[Value.ref b] s = true := fun w hw => hts w (List.mem_filter.mp hw).1
  have hA : ∀ a : Nat, a < s.heap.size → ¬ (fun q : Nat => s.heap.size ≤ q) a := fun a h => Nat.not_le.mpr h
  obtain ⟨D, hD⟩ := kn_all hWS
  obtain ⟨cI, kI, oI, i1, i2, i3⟩ := Cond.arrayClass_spec (hWS _ ac_I)
  obtain ⟨cZ, kZ, oZ, z1, z2, z3⟩ := Cond.arrayClass_spec (hWS _ ac_Z)
  obtain ⟨oQ, cQ, kQ, q1, q2, q3, q4, q5⟩ := Cond.arrayOver_spec (hts _ tb_ao)
  obtain ⟨adK, adV, hS, hev⟩ := vk_Sof (args := #[Value.ref b]) (s := s) (N := 1) (tm := fun _ => tS) (len := [81]) (byt := [txB]) (A := fun q : Nat => s.heap.size ≤ q) (fun i hi => by rw [show i = 0 by omega]; decide) (fun i hi => hs _ fl_ex) (fun i hi => hs _ fl_co) (fun i hi => hs _ fl_ar) (fun i hi => by rw [show i = 0 by omega]; exact hs _ fl_le) (fun i hi j hj => by
    rw [show i = 0 by omega] at hj ⊢
    exact hs _ (fl_el j hj)) (fun i j hi hj hij => absurd (show i = j by omega) hij) hA
  obtain ⟨aF, hF⟩ := sio_of (A := fun q : Nat => s.heap.size ≤ q) (hts _ tb_ls) (hts _ tb_ip) (hs _ fl_si) hA
  have hC : va_Z "java/lang/String" "COMPACT_STRINGS" "Z" (.int 1) (fun q : Nat => s.heap.size ≤ q) s s.heap := va_Zof (hts _ tb_lc) (hts _ tb_is) (va_eqt (hs _ fl_cs)) hA
  have key := lw_all (G := (l, D, (fun k => if k = 10 then cI else if k = 11 then cZ else cQ), s.heap.size, fun q => if q = 777 then adK 0 else if q = 779 then adV 0 else if q = 780 then aF else if q = 778 then b else 0)) (b := b) (L := L) (xs := xs) hL
  rw [lg_entry_eq]
  have hl := lv_entry ([Value.ref b]) (n := 4) (Nat.le_of_ble_eq_true rfl)
  generalize (lg_sl ([Value.ref b]) ++ List.replicate (4 - (lg_sl ([Value.ref b])).length) Slot.unset).toArray = ls at hl ⊢
  refine w_room (R' := mkrm 21 110 25728) (by decide) (by decide) (by decide) (by decide) ?_
  refine key (fun v hv => ?_) (fun v hv => absurd hv List.not_mem_nil) p e s m #[Value.ref b] below meth c s.heap [] ls (fun q => if q = 777 then adK 0 else if q = 779 then adV 0 else if q = 780 then aF else if q = 778 then b else 0) 0 (fun q => if q = 777 then adK 0 else if q = 779 then adV 0 else if q = 780 then aF else if q = 778 then b else 0) ⟨hx, hb, hml, hr, hlocks, hown, hWS, ⟨hD, fun k q hq => ?_⟩, Nat.le_refl _, hnm, ⟨vk_R.of (hts _ tb_sr) (hev 0 (by decide)), ⟨fun i hi => ?_, fun i j hi hj _ => by omega⟩, fun q hq => va_Nw.of rfl (hts _ (tb_nw q hq)), va_AO.of (hts _ tb_ao), hC, hF⟩, hX, hbl, hA b hbl, rfl, rfl⟩ ⟨fun k q h => ?_, ⟨fun i j p q h => ?_, fun k q h => ?_⟩, fun _ _ => z32, fun _ _ => Nat.le_refl _, fun _ _ => rfl, by decide⟩ va_S.rf (lv_subset hl fun q hq => ?_) (Nat.le_refl _) AdE.rf
  · have hv : some v ∈ [some (vR 778), none, none, none] := hv
    simp only [List.mem_cons, List.not_mem_nil, or_false, Option.some.injEq, reduceCtorEq] at hv
    rw [hv]
    exact Or.inr (by decide)
  · have hq : [((fun k => if k = 10 then cI else if k = 11 then cZ else cQ) 10, FieldType.int), ((fun k => if k = 10 then cI else if k = 11 then cZ else cQ) 11, FieldType.boolean), ((fun k => if k = 10 then cI else if k = 11 then cZ else cQ) 12, FieldType.object RX5)][k]? = some q := hq
    match k, hq with
    | 0, hq =>
      cases hq
      exact ⟨fun n z => ⟨fun k h => (by cases h), kI, i2, oI, i3⟩, i1⟩
    | 1, hq =>
      cases hq
      exact ⟨fun n z => ⟨fun k h => (by cases h), kZ, z2, oZ, z3⟩, z1⟩
    | 2, hq =>
      cases hq
      exact ⟨fun n z => ⟨fun k h => (by cases h), kQ, q3, oQ, q4⟩, kQ, oQ, q3, q4, q1, q5⟩
    | k + 3, hq => cases hq
  · rw [show i = 0 by omega]
    exact hS.1 0 (by decide)
  · have h : ([] : va_W)[k]? = some q := h
    cases h
  · have h : ([] : va_W)[i]? = some p := h
    cases h
  · have h : ([] : va_W)[k]? = some q := h
    cases h
  · obtain ⟨v, h1, h2⟩ := al_mem.mp hq
    obtain ⟨i, w⟩ := q
    have h1 : [some (vR 778), none, none, none][i]? = some (some v) := h1
    have h2 : w = cv (fun q => if q = 777 then adK 0 else if q = 779 then adV 0 else if q = 780 then aF else if q = 778 then b else 0) v := h2
    match i, h1 with
    | 0, h1 =>
      cases h1
      have h3 : w = Value.ref b := h2
      rw [h3]
      exact List.mem_cons_self
    | 1, h1 => cases h1
    | 2, h1 => cases h1
    | 3, h1 => cases h1
    | i + 4, h1 => cases h1
set_option maxHeartbeats 4000000 in
theorem lw_walk (l : Launch) (hflags : l.flags = flags0) (b : Addr) (xs : List Int32) : MetFree l x (headSpec (Jvm.Cond.code x code maxLocals ret :: tables_1) room_1) (lw_P b xs) (fun _ _ _ _ _ => True) lw_Q := by
  refine MetFree.of_bodyS (code := code) (maxLocals := maxLocals) (ret := ret) (by decide) ?_ ?_
  · intro args s m h hn
    obtain ⟨meth, c, h1, h2, h3, h4, h5, h6, -, -⟩ := Cond.code_spec hn (atoms_spec (ws := Jvm.Cond.code x code maxLocals ret :: tables_1) h _ List.mem_cons_self)
    exact ⟨meth, c, h1, h2, h3, h4, h5, h6⟩
  · intro p e s m args below meth c s₁ B hml0 hP _
    obtain ⟨rfl, hx, hbd, hgv⟩ := hP
    obtain ⟨scr, harrAt, hlist, hof, hsmall⟩ := hx
    obtain ⟨hcb, hkn, -, -⟩ := State.arrayAt?_spec harrAt
    have hown : s.vm.findClass R_law = some m.cls := findClass_of_methodNamed B.named
    have hts0 : ∀ c ∈ (Jvm.Cond.code x code maxLocals ret :: tables_1), c.before #[Value.ref b] s = true := atoms_spec (ws := Jvm.Cond.code x code maxLocals ret :: tables_1) B.pre
    have hts : ∀ w ∈ lw_tbl, w.before #[Value.ref b] s = true := k2_hts_sels lw_privs (fun w hw => hts0 w (List.mem_cons_of_mem _ hw)) lw_privs_ok
    have hml : c.maxLocals = 4 := B.maxLocals_eq (hts0 _ List.mem_cons_self)
    have X₀ : Stand p l e room_1 s m #[Value.ref b] below meth c s₁ [] 0 0 := Stand.of_body B
    have hh0 : s₁.heap = s.heap := by rw [B.state]; rfl
    have hsz : scr.slots.size = xs.length := by rw [← Array.length_toList, hlist, List.length_map]
    have hval : ∀ j : Nat, j < xs.length → scr.slots[j]? = some (.int (xs.getD j 0)) := fun j hj => by
      rw [← Array.getElem?_toList, hlist]
      simp [hj]
    have hbl : b < s.heap.size := (Array.getElem?_eq_some_iff.mp hcb).1
    have hX : va_X b xs.length (fun j => xs.getD j 0) s s.heap := ⟨scr, hcb, hof, hkn, hsz, hval⟩
    have K : W p l e room_1 s m #[Value.ref b] below meth c s₁.heap [] 0 0 (lw_Z below #[Value.ref b] s) (entryFrame m ([Value.ref b] : List Value).toArray 4) := by
      rw [hh0]
      exact whole_start l hbd ⟨B.exec, B.bytes, B.returns, hml, hown, hts, hX, hbl, B.notSynchronized, hgv, (name_of_methodNamed B.named B.method).1⟩
    obtain ⟨t, a1, o, b1, b2, b3⟩ := K s₁ rfl X₀
    exact ⟨t, o, a1, b1, b2, b3⟩
theorem lw_pre_spec {args : Array Value} {s : State} (h : (Jvm.Cond.and given_1 narrow_1).before args s = true) (hr : rest_1_c.before args s = true) : ∃ (b : Addr) (xs : List Int32), lw_P b xs args s := by
  have hs := flat_of_before _ h
  have hq := flat_of_before _ hr
  have hc : (Cond.count 1).before args s = true := hs _ (by decide +kernel)
  have harr : (Cond.arrayOf (.arg 0) .int).before args s = true := hs _ (by decide +kernel)
  have hle : (Cond.le (.length (.arg 0)) (.int 320)).before args s = true := hs _ (by decide +kernel)
  have hlen : (Cond.isInt (.length (.arg 0))).before args s = true := hq _ (by decide +kernel)
  have hall : (Cond.all (.arg 0) (.isInt (.elem (.arg 0) (.index 0)))).before args s = true := hq _ (by decide +kernel)
  obtain ⟨b, xs, hb, hx⟩ := State.ints_of_pre rfl harr hlen hall
  have hsm : xs.length < 2 ^ 31 := hx.choose_spec.2.2.2
  have hev : (Term.length (.arg 0)).eval args s none [] s = some (.int xs.length.toInt32) := hx.length_eval hb
  have hv := Cond.le_ints hev (show (Term.int 320).eval args s none [] s = some (.int 320) from rfl)
  have hd : xs.length.toInt32 ≤ 320 := by
    simpa [Cond.before, Cond.holds, hv] using hle
  have hN : xs.length ≤ 320 := (Int32.ofNat_le_ofNat hsm (by decide)).mp (show Int32.ofNat xs.length ≤ Int32.ofNat 320 from hd)
  exact ⟨b, xs, Cond.one_arg hc (show args[0]? = some (.ref b) from hb), hx, hN, h⟩
theorem lw_comes (l : Launch) (hflags : l.flags = flags0) : Comes l x (Jvm.Cond.code x code maxLocals ret :: tables_1) room_1 (fun tb e args s => Calls_1 tb e args s ∧ rest_1 tb e args s ∧ Pre_1 tb e args s)
    (fun _ _ args s o t => lw_Q args s o t) := by
  intro p e ha hc hk s m args below hf hfit hheap happ hpre
  obtain ⟨b, xs, hP⟩ := lw_pre_spec hpre.2.2 hpre.2.1
  obtain ⟨k, o, h1, h2, h3, hQ⟩ := lw_walk l hflags b xs p e ha hc hk s m args below hf ((Spec.applies_iff_loose hf).mp happ).1 hP trivial
  exact ⟨k, o, h1, h2, h3, hQ⟩
theorem lw_frame {s t : State} {o : Outcome} {args : Array Value} (h : Framed s o t [] 600000 7302250) :
    Framed s o t (fieldLocs frame_1_writes args s ++ arrayLocs frame_1_arrays args s ++ staticLocs frame_1_statics s) 600000 7302250 := h
theorem lw_limb (L : Cond) (hL : ∀ (args : Array Value) (s t : State), L.after args s (.returned (some (.int 1))) t = true) :
    ArmFor flags0 classFile x code maxLocals ret World_1 tables_1 room_1 Calls_1 rest_1 Pre_1
      (fun tb e a s o t => postC L tb e a s o t ∧ Framed s o t (fieldLocs frame_1_writes a s ++ arrayLocs frame_1_arrays a s ++ staticLocs frame_1_statics s) 600000 7302250) := by
  intro l hflags _ _ p e ha hc hk s m args below hf hfit hheap happ hpre
  obtain ⟨k, o, h1, h2, h3, rfl, hF⟩ := lw_comes l hflags p e ha hc hk s m args below hf hfit hheap happ hpre
  exact ⟨k, _, h1, h2, h3, hL args s _, lw_frame hF⟩
theorem i_vc : Claimed_1_1 ∧ Claimed_1_2 := ⟨lw_limb limb_1_1 (fun args s t => by simp [limb_1_1, Cond.after, Cond.holds, Cond.value]), lw_limb limb_1_2 (fun args s t => Cond.after_iff.mpr (by
  first | (rw [show limb_1_2 = Cond.eq .result (.int 1) from rfl, Cond.eq_ints (x := 1) (y := 1) rfl rfl]; simp; done) | (simp [limb_1_2, Cond.value, Term.eval]; done)))⟩
