/-! ===== one big world: every cell of both objects at a place; methods over places, numbers as whole numbers ===== -/
abbrev AV : Type := Int ⊕ (Int ⊕ Nat)
abbrev vI (x : Int) : AV := Sum.inl x
abbrev vL (x : Int) : AV := Sum.inr (Sum.inl x)
abbrev vR (q : Nat) : AV := Sum.inr (Sum.inr q)
/-- how many places there are, the numbers, the references (0: null) -/
abbrev MM : Type := Nat × (Nat → Nat → Int) × (Nat → Nat → Nat)
abbrev MI : Type := MethodName × ByteArray × Nat × Option FieldType
abbrev GG : Type := Launch × va_G × (Nat → ClassId) × Nat × (Nat → Nat)
abbrev R32 (x : Int) : Prop := -2147483648 ≤ x ∧ x < 2147483648
abbrev R64 (x : Int) : Prop := -9223372036854775808 ≤ x ∧ x < 9223372036854775808
def cr (ad : Nat → Nat) (q : Nat) : Value := if q = 0 then .null else .ref (ad q)
def cv (ad : Nat → Nat) : AV → Value
  | .inl x => .int (Int32.ofInt x)
  | .inr (.inl x) => .long (Int64.ofInt x)
  | .inr (.inr q) => cr ad q
def vok (n : Nat) : AV → Prop
  | .inl x => R32 x
  | .inr (.inl x) => R64 x
  | .inr (.inr q) => q ≤ n ∨ 700 ≤ q
def wide : AV → Bool
  | .inr (.inl _) => true
  | _ => false
def kdL : List Nat := [99, 8, 1, 10, 4, 10, 7, 10, 10, 10, 10, 10, 10, 10, 10, 10, 10, 10, 7, 10, 10, 10, 10, 10, 10, 10, 10, 10, 10, 10, 6, 10, 10, 10, 10, 5, 10, 10, 10, 5, 10, 10, 10, 2, 12, 5, 10, 10, 10, 5, 10, 10, 10, 5, 10, 10, 10, 5, 10, 10, 10, 5, 10, 10, 10, 5, 10, 10, 10, 5, 10, 10, 10, 5, 10, 10, 10, 2, 12, 5, 10, 10, 10, 5, 10, 10, 10, 3, 10, 10, 10, 10, 10, 10, 0, 10, 9, 10, 10, 10, 10, 10, 10, 10, 10, 10, 10, 11, 10, 10, 10]
def lnL : List Nat := [0, 0, 0, 200, 0, 4, 0, 10, 10, 12, 12, 8, 8, 4, 6, 6, 6, 6, 0, 10, 10, 12, 12, 8, 8, 4, 6, 6, 6, 6, 0, 1024, 1024, 1024, 1024, 0, 4, 4, 4, 0, 4, 4, 4, 0, 8, 0, 4, 4, 4, 0, 4, 4, 4, 0, 4, 4, 4, 0, 4, 4, 4, 0, 4, 4, 4, 0, 4, 4, 4, 0, 4, 4, 4, 0, 4, 4, 4, 0, 2, 0, 4, 4, 4, 0, 4, 4, 4, 0, 4, 4, 4, 5, 1024, 1024, 0, 6, 0, 156, 200, 10, 10, 10, 8, 8, 4, 24, 4, 16384, 1024, 1024, 6]
/-- a place's kind: 0 to 9 an object of that class, 10 ints, 11 booleans, 12 States -/
def kd (p : Nat) : Nat := kdL.getD p 99
def ln (p : Nat) : Nat := lnL.getD p 0
def cls : List vw_C := [(RX0, TX0, 4), (RX1, TX1, 2), (RX2, TX2, 2), (RX3, TX3, 12), (RX4, TX4, 3), (RX5, TX5, 4), (RX6, TX6, 5), (RX7, TX7, 19), (RX8, TX8, 11), (RX9, TX9, 28)]
def nf (c : Nat) : Nat := [4, 2, 2, 12, 3, 4, 5, 19, 11, 28].getD c 0
def tyc (c : Nat) : Nat → FieldType := [tyX0, tyX1, tyX2, tyX3, tyX4, tyX5, tyX6, tyX7, tyX8, tyX9].getD c tyX0
def isr (c k : Nat) : Bool := match tyc c k with
  | .int => false
  | _ => true
theorem kd_in {p : Nat} (h : kd p ≤ 12) : 1 ≤ p ∧ p ≤ 110 := by
  refine ⟨Nat.pos_of_ne_zero fun e => ?_, Nat.le_of_not_lt fun e => ?_⟩
  · subst e; revert h; decide
  · have : kd p = 99 := by
      unfold kd
      show (kdL[p]?).getD 99 = 99
      rw [List.getElem?_eq_none (by show kdL.length ≤ p; exact Nat.le_trans (by decide) e)]
      rfl
    omega
theorem ln_le : ∀ p : Nat, ln p ≤ 16384 := by
  intro p
  by_cases h : p < 111
  · exact (by decide +kernel : ∀ p, p < 111 → ln p ≤ 16384) p h
  · have : ln p = 0 := by
      unfold ln
      show (lnL[p]?).getD 0 = 0
      rw [List.getElem?_eq_none (by show lnL.length ≤ p; exact Nat.le_trans (by decide) (Nat.le_of_not_lt h))]
      rfl
    omega
/-- what a place holds -/
def ce (cy : Nat → ClassId) (ad : Nat → Nat) (M : MM) (p : Nat) : va_E :=
  if kd p < 10 then .inr (kd p, (List.range (nf (kd p))).map (fun k => if isr (kd p) k then cr ad (M.2.2 p k) else .int (Int32.ofInt (M.2.1 p k))))
  else if kd p = 12 then .inl (cy 12, ln p, .inr (.inr (.inr (.inr (fun j => if M.2.2 p j = 0 then none else some (ad (M.2.2 p j)))))))
  else .inl (cy (kd p), ln p, .inl (fun j => Int32.ofInt (M.2.1 p j)))
def wl (G : GG) (ad : Nat → Nat) (M : MM) : va_W := (List.range M.1).map (fun i => (ad (i + 1), ce G.2.2.1 ad M (i + 1)))
abbrev gA (G : GG) : Nat → Prop := fun q => G.2.2.2.1 ≤ q
abbrev tysG (G : GG) : List (ClassId × FieldType) := [(G.2.2.1 10, .int), (G.2.2.1 11, .boolean), (G.2.2.1 12, .object RX5)]
def gI (M : MM) (p k : Nat) : Int := M.2.1 p k
def gR (M : MM) (p k : Nat) : Nat := M.2.2 p k
def stI (M : MM) (p k : Nat) (x : Int) : MM := (M.1, fun p' k' => if p' = p ∧ k' = k then x else M.2.1 p' k', M.2.2)
def stR (M : MM) (p k : Nat) (x : Nat) : MM := (M.1, M.2.1, fun p' k' => if p' = p ∧ k' = k then x else M.2.2 p' k')
/-- one more place, of noughts and nulls -/
def stN (M : MM) : MM := (M.1 + 1, fun p' k' => if p' = M.1 + 1 then 0 else M.2.1 p' k', fun p' k' => if p' = M.1 + 1 then 0 else M.2.2 p' k')
def lclr (L : List (Option AV)) : Nat → List (Option AV)
  | 0 => L
  | j + 1 => match L[j]? with
    | some (some (.inr (.inl _))) => L.set j none
    | _ => L
def lset (L : List (Option AV)) (i : Nat) (v : AV) : List (Option AV) := (lclr L i).set i (some v)
def lset2 (L : List (Option AV)) (i : Nat) (v : AV) : List (Option AV) := ((lclr L i).set i (some v)).set (i + 1) none
def wkL : List (Option AV) → List Bool → List (Option AV)
  | v :: L, b :: bs => (if b then v else none) :: wkL L bs
  | _, _ => []
def al (ad : Nat → Nat) (L : List (Option AV)) : List (Nat × Value) := (List.range L.length).filterMap (fun i => match L[i]? with
  | some (some v) => some (i, cv ad v)
  | _ => none)
def WS : List Cond := lw_tbl.filter goodWord
def txB : List Int32 := [116, 53, 44, 49, 59, 116, 52, 44, 49, 59, 116, 54, 44, 48, 59, 116, 57, 44, 50, 59, 116, 55, 44, 51, 59, 121, 50, 44, 48, 59, 121, 52, 44, 50, 59, 112, 48, 44, 51, 59, 112, 50, 44, 53, 59, 112, 51, 44, 49, 59, 112, 52, 44, 50, 59, 98, 49, 50, 59, 98, 49, 54, 59, 120, 48, 44, 50, 44, 49, 44, 50, 59, 120, 50, 44, 48, 44, 50, 44, 49, 59]
def tx0 : String := "t5,1;t4,1;t6,0;t9,2;t7,3;y2,0;y4,2;p0,3;p2,5;p3,1;p4,2;b12;b16;x0,2,1,2;x2,0,2,1;"
/-- the links to nest mates' private members -/
def NWL : List (String × Nat × MethodName × String) := [(RX0, 54, yX8_commonDivisor, "RibbonOfLacks"), (RX2, 25, yX5_init, "RibbonOfLacks"), (RX8, 9, yX1_init, "RibbonOfLacks"), (RX8, 27, yX7_init, "RibbonOfLacks"), (RX8, 37, yX6_init, "RibbonOfLacks"), (RX8, 44, yX5_init, "RibbonOfLacks"), (RX8, 75, yX0_init, "RibbonOfLacks")]
/-- a static of which only 'a reference or null' is said -/
def SioZ (a : Nat) (A : Nat → Prop) (U : State) (H : Heap) : Prop := ∃ v : Value, (v = .null ∨ v = .ref a) ∧ va_Z "jdk/internal/util/Preconditions" "SIOOBE_FORMATTER" "Ljava/util/function/BiFunction;" v A U H
theorem SioZ.moved {a : Nat} {A : Nat → Prop} {u U : State} {H : Heap} (hvm : u.vm.Alike U.vm) (h : SioZ a A u H) : SioZ a A U H := by
  obtain ⟨v, hv, hz⟩ := h
  exact ⟨v, hv, va_Z.moved hvm hz⟩
theorem SioZ.kept {a : Nat} {A : Nat → Prop} {U : State} {H H1 : Heap} (h : SioZ a A U H) (hq : ∀ a : Nat, a < H.size → ¬ A a → H1[a]? = H[a]?) : SioZ a A U H1 := by
  obtain ⟨v, hv, hz⟩ := h
  exact ⟨v, hv, hz.kept hq⟩
/-- what stays as it was at the start: the String constant, two statics, links, an array class -/
def XS (G : GG) (U : State) (H : Heap) : Prop := vk_R RX8 80 tx0 (G.2.2.2.2 777) U ∧ vk_S 1 [81] [txB] (fun _ => G.2.2.2.2 777) (fun _ => G.2.2.2.2 779) (gA G) U H ∧ (∀ q ∈ NWL, va_Nw (.methodLinkNest q.1 q.2.1 q.2.2.1 q.2.2.2) U) ∧ va_AO RX5 U ∧ va_Z "java/lang/String" "COMPACT_STRINGS" "Z" (.int 1) (gA G) U H ∧ SioZ (G.2.2.2.2 780) (gA G) U H
def mkrm (d mc ms : Nat) : Room := { frames := d, cells := mc, slots := ms, locals := 40 * d }
def Cx (G : GG) (I : MI) (XX : State → Prop) (p : Program) (s : State) (m : MethodId) (args : Array Value) (meth : Method) (c : Code) : Prop :=
  p.tables.exec = Jvm.exec ∧ c.code = I.2.1 ∧ c.maxLocals = I.2.2.1 ∧ meth.sig.returnType = I.2.2.2 ∧ meth.locks = false ∧ s.vm.findClass I.1.cls = some m.cls ∧ (∀ w ∈ WS, w.before args s = true) ∧
  va_K G.2.1 cls (tysG G) s ∧ G.2.2.2.1 ≤ s.heap.size ∧ meth.name = I.1.name ∧ XS G s s.heap ∧ XX s
def Ww (G : GG) (ad : Nat → Nat) (M : MM) (H : Heap) : Prop := va_P G.2.1 cls (wl G ad M) H ∧ va_D (gA G) (wl G ad M) ∧ (∀ p k, R32 (M.2.1 p k)) ∧ (∀ p k, M.2.2 p k ≤ M.1) ∧ (∀ q, 700 ≤ q → ad q = G.2.2.2.2 q) ∧ M.1 < 700
def AdE (n0 : Nat) (ad0 ad : Nat → Nat) : Prop := ∀ q, (q ≤ n0 ∨ 700 ≤ q) → ad q = ad0 q
/-- a method's body from pc on comes to an end as Z says -/
def Wg (G : GG) (I : MI) (XX : State → Prop) (d mc ms : Nat) (Z : Nat → (Nat → Nat) → List Frame → Array Value → State → State → Prop) (pc : Nat) (L : List (Option AV)) (st : List AV) (M : MM) (k n : Nat) : Prop :=
  (∀ v, some v ∈ L → vok M.1 v) → (∀ v ∈ st, vok M.1 v) → ∀ (p : Program) (e : Env) (s : State) (m : MethodId) (args : Array Value) (below : List Frame) (meth : Method) (c : Code) (H : Heap) (locs : List Loc) (Ls : Array Slot) (ad : Nat → Nat) (n0 : Nat) (ad0 : Nat → Nat),
  Cx G I XX p s m args meth c → Ww G ad M H → va_S (gA G) s.heap H locs → lv_has Ls I.2.2.1 (al ad L) → n0 ≤ M.1 → AdE n0 ad0 ad →
  W p G.1 e (mkrm d mc ms) s m args below meth c H locs k n (Z n0 ad0 below args s) (F0 m pc Ls (st.map (cv ad)))
/-- the end of a method that answers as Q says -/
def QcO (G : GG) (n0 : Nat) (ad0 : Nat → Nat) (Q : Option AV → MM → Prop) : Array Value → State → Outcome → State → Prop := fun _ st o t =>
  (∃ (v : Option AV) (M' : MM) (ad' : Nat → Nat), o = .returned (v.map (cv ad')) ∧ Q v M' ∧ n0 ≤ M'.1 ∧ AdE n0 ad0 ad' ∧ (∀ x, v = some x → vok M'.1 x) ∧ Ww G ad' M' t.heap) ∧ va_F (gA G) st t
abbrev Wp (G : GG) (I : MI) (d mc ms : Nat) (pc : Nat) (L : List (Option AV)) (st : List AV) (M : MM) (k n : Nat) (Q : Option AV → MM → Prop) : Prop :=
  Wg G I (fun _ => True) d mc ms (fun n0 ad0 below args s => MQ below (QcO G n0 ad0 Q) args s mc ms (gA G)) pc L st M k n
def PcO (G : GG) (ad : Nat → Nat) (M : MM) : State → Prop := fun U => G.2.2.2.1 ≤ U.heap.size ∧ va_K G.2.1 cls (tysG G) U ∧ XS G U U.heap ∧ Ww G ad M U.heap
/-- method I, called with as on M, answers as Q says -/
def Ok (G : GG) (I : MI) (d mc ms : Nat) (as : List AV) (M : MM) (Q : Option AV → MM → Prop) : Prop :=
  (∀ v ∈ as, vok M.1 v) → ∀ ad : Nat → Nat, Met G.1 I.1 (.code I.1 I.2.1 I.2.2.1 I.2.2.2 :: WS) (mkrm d mc ms) (va_Pc (as.map (cv ad)) (PcO G ad M)) (QcO G M.1 ad Q) mc ms (gA G)
abbrev Dd (b : ByteArray) (pc : Nat) (i : Instr) (len pc' : Nat) : Prop := decode b pc = .ok (i, len) ∧ pc + len = pc'
-- ===== facts of lists =====
theorem al_mem {ad : Nat → Nat} {L : List (Option AV)} {q : Nat × Value} : q ∈ al ad L ↔ ∃ v, L[q.1]? = some (some v) ∧ q.2 = cv ad v := by
  obtain ⟨i, w⟩ := q
  unfold al
  rw [List.mem_filterMap]
  constructor
  · rintro ⟨j, hj, h⟩
    split at h
    · next v hv =>
      cases h
      exact ⟨v, hv, rfl⟩
    · cases h
  · rintro ⟨v, hv, h⟩
    have hv : L[i]? = some (some v) := hv
    have h : w = cv ad v := h
    refine ⟨i, List.mem_range.mpr (List.getElem?_eq_some_iff.mp hv).1, ?_⟩
    rw [hv, h]
theorem lv_subset {Ls : Array Slot} {nL : Nat} {l l' : List (Nat × Value)} (h : lv_has Ls nL l) (hs : ∀ q ∈ l', q ∈ l) : lv_has Ls nL l' := ⟨h.1, h.2.1, fun q hq => h.2.2 q (hs q hq)⟩
theorem al_get {Ls : Array Slot} {nL i : Nat} {ad : Nat → Nat} {L : List (Option AV)} {v : AV} (h : lv_has Ls nL (al ad L)) (hv : L[i]? = some (some v)) : Ls[i]? = some (.val (cv ad v)) := h.2.2 (i, cv ad v) (al_mem.mpr ⟨v, hv, rfl⟩)
theorem cv_cat (ad : Nat → Nat) (v : AV) : (cv ad v).category = if wide v then 2 else 1 := by
  rcases v with x | x | q
  · rfl
  · rfl
  · show (cr ad q).category = 1
    unfold cr
    split <;> rfl
theorem lclr_get {L : List (Option AV)} {i j : Nat} {v : AV} (h : (lclr L i)[j]? = some (some v)) : L[j]? = some (some v) ∧ ¬ (j + 1 = i ∧ wide v = true) := by
  cases i with
  | zero => exact ⟨h, by omega⟩
  | succ i =>
    simp only [lclr] at h
    split at h
    · next y hy =>
      by_cases hij : i = j
      · subst hij
        rw [List.getElem?_set_self (List.getElem?_eq_some_iff.mp hy).1] at h
        cases h
      · rw [List.getElem?_set_ne hij] at h
        exact ⟨h, by omega⟩
    · next hy =>
      refine ⟨h, fun q => ?_⟩
      obtain ⟨q1, q2⟩ := q
      have : j = i := by omega
      subst this
      rcases v with x | x | x
      · cases q2
      · exact hy x h
      · cases q2
theorem lset_get {L : List (Option AV)} {i j : Nat} {v u : AV} (h : (lset L i v)[j]? = some (some u)) : (j = i ∧ u = v) ∨ (j ≠ i ∧ L[j]? = some (some u) ∧ ¬ (j + 1 = i ∧ wide u = true)) := by
  unfold lset at h
  by_cases hij : i = j
  · subst hij
    have hl := (List.getElem?_eq_some_iff.mp h).1
    rw [List.length_set] at hl
    rw [List.getElem?_set_self hl] at h
    cases h
    exact Or.inl ⟨rfl, rfl⟩
  · rw [List.getElem?_set_ne hij] at h
    obtain ⟨h1, h2⟩ := lclr_get h
    exact Or.inr ⟨fun q => hij q.symm, h1, h2⟩
theorem al_lset {ad : Nat → Nat} {L : List (Option AV)} {i : Nat} {v : AV} : ∀ q ∈ al ad (lset L i v), q ∈ (i, cv ad v) :: (al ad L).filter (fun q => !(q.1 == i) && !(q.1 + 1 == i && q.2.category == 2)) := by
  intro q hq
  obtain ⟨u, h1, h2⟩ := al_mem.mp hq
  rcases lset_get h1 with ⟨e1, e2⟩ | ⟨e1, e2, e3⟩
  · subst e2
    rw [← e1, ← h2]
    exact List.mem_cons_self
  · refine List.mem_cons_of_mem _ (List.mem_filter.mpr ⟨al_mem.mpr ⟨u, e2, h2⟩, ?_⟩)
    rw [h2, cv_cat]
    cases hw : wide u
    · simp [e1]
    · have : ¬ q.1 + 1 = i := fun z => e3 ⟨z, hw⟩
      simp [e1, this]
theorem al_lset2 {ad : Nat → Nat} {L : List (Option AV)} {i : Nat} {v : AV} : ∀ q ∈ al ad (lset2 L i v), q ∈ (i, cv ad v) :: (al ad L).filter (fun q => !(q.1 == i) && (!(q.1 == i + 1) && !(q.1 + 1 == i && q.2.category == 2))) := by
  intro q hq
  obtain ⟨u, h1, h2⟩ := al_mem.mp hq
  have h3 : q.1 ≠ i + 1 ∧ (lset L i v)[q.1]? = some (some u) := by
    unfold lset2 at h1
    by_cases hij : i + 1 = q.1
    · rw [← hij] at h1
      have hl := (List.getElem?_eq_some_iff.mp h1).1
      rw [List.length_set] at hl
      rw [List.getElem?_set_self hl] at h1
      cases h1
    · rw [List.getElem?_set_ne hij] at h1
      exact ⟨fun z => hij z.symm, h1⟩
  rcases lset_get h3.2 with ⟨e1, e2⟩ | ⟨e1, e2, e3⟩
  · subst e2
    rw [← e1, ← h2]
    exact List.mem_cons_self
  · refine List.mem_cons_of_mem _ (List.mem_filter.mpr ⟨al_mem.mpr ⟨u, e2, h2⟩, ?_⟩)
    rw [h2, cv_cat]
    have h4 := h3.1
    cases hw : wide u
    · simp [e1, h4]
    · have : ¬ q.1 + 1 = i := fun z => e3 ⟨z, hw⟩
      simp [e1, this, h4]
theorem wkL_get {L : List (Option AV)} : ∀ {bs : List Bool} {i : Nat} {v : AV}, (wkL L bs)[i]? = some (some v) → L[i]? = some (some v) := by
  induction L with
  | nil => intro bs i v h; cases bs <;> simp [wkL] at h
  | cons a L ih =>
    intro bs i v h
    cases bs with
    | nil => simp [wkL] at h
    | cons b bs =>
      cases i with
      | zero =>
        cases b
        · simp [wkL] at h
        · simpa [wkL] using h
      | succ i =>
        have h : (wkL L bs)[i]? = some (some v) := by simpa [wkL] using h
        simpa using ih h
theorem mem_get {L : List (Option AV)} {v : AV} : some v ∈ L ↔ ∃ i : Nat, L[i]? = some (some v) := List.mem_iff_getElem?
theorem vok_mono {n n' : Nat} (h : n ≤ n') {v : AV} (hv : vok n v) : vok n' v := by
  rcases v with x | x | q
  · exact hv
  · exact hv
  · exact hv.imp (fun z => Nat.le_trans z h) id
theorem lok_set {n i : Nat} {L : List (Option AV)} {v : AV} (h : ∀ v, some v ∈ L → vok n v) (hv : vok n v) : ∀ u, some u ∈ lset L i v → vok n u := by
  intro u hu
  obtain ⟨j, hj⟩ := mem_get.mp hu
  rcases lset_get hj with ⟨-, e⟩ | ⟨-, e, -⟩
  · rw [e]; exact hv
  · exact h u (mem_get.mpr ⟨j, e⟩)
theorem lok_set2 {n i : Nat} {L : List (Option AV)} {v : AV} (h : ∀ v, some v ∈ L → vok n v) (hv : vok n v) : ∀ u, some u ∈ lset2 L i v → vok n u := by
  intro u hu
  obtain ⟨j, hj⟩ := mem_get.mp hu
  unfold lset2 at hj
  by_cases hij : i + 1 = j
  · rw [hij] at hj
    have hl := (List.getElem?_eq_some_iff.mp hj).1
    rw [List.length_set] at hl
    rw [List.getElem?_set_self hl] at hj
    cases hj
  · rw [List.getElem?_set_ne hij] at hj
    exact lok_set (i := i) h hv u (mem_get.mpr ⟨j, hj⟩)
theorem cv_alike {n : Nat} {ad ad' : Nat → Nat} (h : AdE n ad ad') {v : AV} (hv : vok n v) : cv ad' v = cv ad v := by
  rcases v with x | x | q
  · rfl
  · rfl
  · show cr ad' q = cr ad q
    unfold cr
    rw [h q hv]
theorem st_alike {n : Nat} {ad ad' : Nat → Nat} (h : AdE n ad ad') {st : List AV} (hv : ∀ v ∈ st, vok n v) : st.map (cv ad') = st.map (cv ad) := List.map_congr_left fun v hx => cv_alike h (hv v hx)
theorem al_alike {n : Nat} {ad ad' : Nat → Nat} (h : AdE n ad ad') {L : List (Option AV)} (hv : ∀ v, some v ∈ L → vok n v) : ∀ q ∈ al ad' L, q ∈ al ad L := by
  intro q hq
  obtain ⟨v, h1, h2⟩ := al_mem.mp hq
  exact al_mem.mpr ⟨v, h1, h2.trans (cv_alike h (hv v (mem_get.mpr ⟨_, h1⟩)))⟩
theorem AdE.rf {n : Nat} {ad : Nat → Nat} : AdE n ad ad := fun _ _ => rfl
theorem AdE.tr {n m : Nat} {a b c : Nat → Nat} (hnm : n ≤ m) (h1 : AdE n a b) (h2 : AdE m b c) : AdE n a c := fun q hq => (h2 q (hq.imp (fun z => Nat.le_trans z hnm) id)).trans (h1 q hq)
theorem wl_get {G : GG} {ad : Nat → Nat} {M : MM} {p : Nat} (h1 : 1 ≤ p) (h2 : p ≤ M.1) : (wl G ad M)[p - 1]? = some (ad p, ce G.2.2.1 ad M p) := by
  unfold wl
  rw [List.getElem?_map, List.getElem?_range (by omega)]
  simp only [Option.map_some]
  rw [show p - 1 + 1 = p by omega]
theorem wl_set {G : GG} {ad : Nat → Nat} {M M' : MM} {p : Nat} {E : va_E} (h1 : 1 ≤ p) (h2 : p ≤ M.1) (hn : M'.1 = M.1) (hp : ce G.2.2.1 ad M' p = E) (ho : ∀ q, q ≠ p → ce G.2.2.1 ad M' q = ce G.2.2.1 ad M q) : (wl G ad M).set (p - 1) (ad p, E) = wl G ad M' := by
  refine List.ext_getElem? fun i => ?_
  unfold wl
  rw [hn]
  by_cases hi : i = p - 1
  · subst hi
    rw [List.getElem?_set_self (by simp; omega), List.getElem?_map, List.getElem?_range (by omega)]
    simp only [Option.map_some]
    rw [show p - 1 + 1 = p by omega, hp]
  · rw [List.getElem?_set_ne (fun z => hi z.symm), List.getElem?_map, List.getElem?_map]
    by_cases hl : i < M.1
    · rw [List.getElem?_range hl]
      simp only [Option.map_some]
      rw [ho (i + 1) (by omega)]
    · rw [List.getElem?_eq_none (by simpa using Nat.le_of_not_lt hl)]
      rfl
