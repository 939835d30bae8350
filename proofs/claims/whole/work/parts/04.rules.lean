/-! ===== an instruction, a rule, over the one big world ===== -/
def iandv (x y : Int) : Int := (Int32.ofInt x &&& Int32.ofInt y).toInt
def iorv (x y : Int) : Int := (Int32.ofInt x ||| Int32.ofInt y).toInt
def ixorv (x y : Int) : Int := (Int32.ofInt x ^^^ Int32.ofInt y).toInt
def ishlv (x y : Int) : Int := (Int32.ofInt x <<< (Int32.ofInt y &&& 31)).toInt
def ishrv (x y : Int) : Int := (Int32.ofInt x >>> (Int32.ofInt y &&& 31)).toInt
def iushrv (x y : Int) : Int := (((Int32.ofInt x).toUInt32 >>> ((Int32.ofInt y).toUInt32 &&& Int32.toUInt32 31)).toInt32).toInt
def lcmpv (x y : Int) : Int := if y < x then 1 else if x = y then 0 else -1
theorem r32_toInt (x : Int32) : R32 x.toInt := ⟨x.le_toInt, x.toInt_lt⟩
theorem mx32 : Int32.maxValue.toInt = 2147483647 := rfl
theorem mn32 : Int32.minValue.toInt = -2147483648 := rfl
theorem mx64 : Int64.maxValue.toInt = 9223372036854775807 := rfl
theorem mn64 : Int64.minValue.toInt = -9223372036854775808 := rfl
theorem o32_lt {x y : Int} (hx : R32 x) (hy : R32 y) : Int32.ofInt x < Int32.ofInt y ↔ x < y := Int32.ofInt_lt_iff_lt (by rw [mn32]; exact hx.1) (by rw [mx32]; have := hx.2; omega) (by rw [mn32]; exact hy.1) (by rw [mx32]; have := hy.2; omega)
theorem o32_le {x y : Int} (hx : R32 x) (hy : R32 y) : Int32.ofInt x ≤ Int32.ofInt y ↔ x ≤ y := Int32.ofInt_le_iff_le (by rw [mn32]; exact hx.1) (by rw [mx32]; have := hx.2; omega) (by rw [mn32]; exact hy.1) (by rw [mx32]; have := hy.2; omega)
theorem o32_t {x : Int} (hx : R32 x) : (Int32.ofInt x).toInt = x := Int32.toInt_ofInt_of_le hx.1 hx.2
theorem o32_eq {x y : Int} (hx : R32 x) (hy : R32 y) : Int32.ofInt x = Int32.ofInt y ↔ x = y := ⟨fun h => by have := congrArg Int32.toInt h; rwa [o32_t hx, o32_t hy] at this, fun h => by rw [h]⟩
theorem o64_t {x : Int} (hx : R64 x) : (Int64.ofInt x).toInt = x := Int64.toInt_ofInt_of_le hx.1 hx.2
theorem o64_eq {x y : Int} (hx : R64 x) (hy : R64 y) : Int64.ofInt x = Int64.ofInt y ↔ x = y := ⟨fun h => by have := congrArg Int64.toInt h; rwa [o64_t hx, o64_t hy] at this, fun h => by rw [h]⟩
theorem o64_lt {x y : Int} (hx : R64 x) (hy : R64 y) : Int64.ofInt x < Int64.ofInt y ↔ x < y := Int64.ofInt_lt_iff_lt (by rw [mn64]; exact hx.1) (by rw [mx64]; have := hx.2; omega) (by rw [mn64]; exact hy.1) (by rw [mx64]; have := hy.2; omega)
theorem o32_0 : Int32.ofInt 0 = 0 := rfl
theorem o64_0 : Int64.ofInt 0 = 0 := rfl
theorem z32 : R32 0 := ⟨by decide, by decide⟩
theorem lcmp_o {x y : Int} (hx : R64 x) (hy : R64 y) : lg_cmp (Int64.ofInt x) (Int64.ofInt y) = Int32.ofInt (lcmpv x y) := by
  unfold lg_cmp lcmpv
  simp only [gt_iff_lt, o64_lt hy hx, o64_eq hx hy]
  split
  · rfl
  · split <;> rfl
theorem lcmpv_r (x y : Int) : R32 (lcmpv x y) := by
  unfold lcmpv
  split
  · exact ⟨by decide, by decide⟩
  · split <;> exact ⟨by decide, by decide⟩
theorem o32_rem {x y : Int} (hx : R32 x) (hy : R32 y) : Int32.ofInt x - Int32.ofInt x / Int32.ofInt y * Int32.ofInt y = Int32.ofInt (x.tmod y) := by
  apply Int32.toInt_inj.mp
  rw [rem_toInt, o32_t hx, o32_t hy, o32_t]
  have h1 : (x.tmod y).natAbs ≤ x.natAbs := by rw [Int.natAbs_tmod]; exact Nat.mod_le _ _
  have h2 : 0 ≤ x → 0 ≤ x.tmod y := fun h => Int.tmod_nonneg _ h
  obtain ⟨a, b⟩ := hx
  constructor
  · omega
  · rcases Int.lt_or_le x 0 with h | h
    · have h3 : x.tmod y ≤ 0 := by
        have := Int.tmod_nonneg (a := -x) y (by omega)
        rw [Int.neg_tmod] at this
        omega
      omega
    · omega
theorem o64_rem {x y : Int} (hx : R64 x) (hy : R64 y) : Int64.ofInt x - Int64.ofInt x / Int64.ofInt y * Int64.ofInt y = Int64.ofInt (x.tmod y) := by
  have e : x.tmod y = x - x.tdiv y * y := by have := Int.tmod_add_tdiv_mul x y; omega
  rw [e, Int64.ofInt_sub, Int64.ofInt_mul, Int64.ofInt_tdiv (by rw [mn64]; exact hx.1) (by rw [mx64]; have := hx.2; omega) (by rw [mn64]; exact hy.1) (by rw [mx64]; have := hy.2; omega)]
theorem tmod_r {x y B : Int} (hx : -B ≤ x ∧ x < B) : -B ≤ x.tmod y ∧ x.tmod y < B := by
  have h1 : (x.tmod y).natAbs ≤ x.natAbs := by rw [Int.natAbs_tmod]; exact Nat.mod_le _ _
  obtain ⟨a, b⟩ := hx
  constructor
  · omega
  · rcases Int.lt_or_le x 0 with h | h
    · have h3 : x.tmod y ≤ 0 := by
        have := Int.tmod_nonneg (a := -x) y (by omega)
        rw [Int.neg_tmod] at this
        omega
      omega
    · omega
theorem o32_div {x y : Int} (hx : R32 x) (hy : R32 y) : Int32.ofInt x / Int32.ofInt y = Int32.ofInt (x.tdiv y) := (Int32.ofInt_tdiv (by rw [mn32]; exact hx.1) (by rw [mx32]; have := hx.2; omega) (by rw [mn32]; exact hy.1) (by rw [mx32]; have := hy.2; omega)).symm
theorem o64_div {x y : Int} (hx : R64 x) (hy : R64 y) : Int64.ofInt x / Int64.ofInt y = Int64.ofInt (x.tdiv y) := (Int64.ofInt_tdiv (by rw [mn64]; exact hx.1) (by rw [mx64]; have := hx.2; omega) (by rw [mn64]; exact hy.1) (by rw [mx64]; have := hy.2; omega)).symm
theorem o32_l {x : Int} (hx : R32 x) : (Int32.ofInt x).toInt64 = Int64.ofInt x := Int32.toInt64_ofInt (by rw [mn32]; exact hx.1) (by rw [mx32]; have := hx.2; omega)
theorem o8 {n : Int} (h : -128 ≤ n ∧ n < 128) : (Int8.ofInt n).toInt32 = Int32.ofInt n := by
  apply Int32.toInt_inj.mp
  rw [Int8.toInt_toInt32, Int8.toInt_ofInt_of_le h.1 h.2, o32_t ⟨by omega, by omega⟩]
theorem o16 {n : Int} (h : -32768 ≤ n ∧ n < 32768) : (Int16.ofInt n).toInt32 = Int32.ofInt n := by
  apply Int32.toInt_inj.mp
  rw [Int16.toInt_toInt32, Int16.toInt_ofInt_of_le h.1 h.2, o32_t ⟨by omega, by omega⟩]
section WG
variable {G : GG} {I : MI} {XX : State → Prop} {d mc ms : Nat} {Z : Nat → (Nat → Nat) → List Frame → Array Value → State → State → Prop} {pc pc' : Nat} {L : List (Option AV)} {st : List AV} {M : MM} {k n : Nat}
theorem wg_stk {st' : List AV} (ho : (∀ v, some v ∈ L → vok M.1 v) → (∀ v ∈ st, vok M.1 v) → (∀ p k, R32 (M.2.1 p k)) → (∀ p k, M.2.2 p k ≤ M.1) → ∀ v ∈ st', vok M.1 v)
    (h : ∀ (p : Program) (e : Env) (s : State) (m : MethodId) (args : Array Value) (below : List Frame) (meth : Method) (c : Code) (H : Heap) (locs : List Loc) (Ls : Array Slot) (ad : Nat → Nat) (Q : State → Prop), Cx G I XX p s m args meth c → Ww G ad M H → va_S (gA G) s.heap H locs → lv_has Ls I.2.2.1 (al ad L) → (∀ v ∈ st, vok M.1 v) →
      W p G.1 e (mkrm d mc ms) s m args below meth c H locs k n Q (F0 m pc' Ls (st'.map (cv ad))) → W p G.1 e (mkrm d mc ms) s m args below meth c H locs k n Q (F0 m pc Ls (st.map (cv ad))))
    (kk : Wg G I XX d mc ms Z pc' L st' M k n) : Wg G I XX d mc ms Z pc L st M k n := by
  intro hL hs p e s m args below meth c H locs Ls ad n0 ad0 X hW hS hl hn hE
  exact h p e s m args below meth c H locs Ls ad _ X hW hS hl hs (kk hL (ho hL hs hW.2.2.1 hW.2.2.2.1) p e s m args below meth c H locs Ls ad n0 ad0 X hW hS hl hn hE)
theorem vok_tl {a : AV} {N : Nat} (h : ∀ v ∈ a :: st, vok N v) : ∀ v ∈ st, vok N v := fun v hv => h v (List.mem_cons_of_mem _ hv)
theorem vok_cons {a : AV} {N : Nat} (h1 : vok N a) (h : ∀ v ∈ st, vok N v) : ∀ v ∈ a :: st, vok N v := fun v hv => (List.mem_cons.mp hv).elim (fun e => by rw [e]; exact h1) (h v)
theorem vcI {x : Int} {N : Nat} (h1 : R32 x) (h : ∀ v ∈ st, vok N v) : ∀ v ∈ vI x :: st, vok N v := vok_cons (a := vI x) h1 h
theorem vcL {x : Int} {N : Nat} (h1 : R64 x) (h : ∀ v ∈ st, vok N v) : ∀ v ∈ vL x :: st, vok N v := vok_cons (a := vL x) h1 h
theorem vcR {x N : Nat} (h1 : x ≤ N ∨ 700 ≤ x) (h : ∀ v ∈ st, vok N v) : ∀ v ∈ vR x :: st, vok N v := vok_cons (a := vR x) h1 h
theorem vok_hd {a : AV} {N : Nat} (h : ∀ v ∈ a :: st, vok N v) : vok N a := h a List.mem_cons_self

theorem wg_iload {i : Nat} {x : Int} (hd : Dd I.2.1 pc (.iload i) 2 pc') (hl : L[i]? = some (some (vI x))) (kk : Wg G I XX d mc ms Z pc' L (vI x :: st) M k n) : Wg G I XX d mc ms Z pc L st M k n := by
  obtain ⟨hd, rfl⟩ := hd
  refine wg_stk (fun hL hs _ _ => vok_cons (hL _ (mem_get.mpr ⟨_, hl⟩)) hs) (fun p e s m args below meth c H locs Ls ad Q X hW hS h hs q => ?_) kk
  have hg := al_get h hl
  
  
  exact lv_iload X.1 X.2.1 hd hg q
theorem wg_iload_n {j : Fin 4} {x : Int} (hd : Dd I.2.1 pc (.iload_n j) 1 pc') (hl : L[(j : Nat)]? = some (some (vI x))) (kk : Wg G I XX d mc ms Z pc' L (vI x :: st) M k n) : Wg G I XX d mc ms Z pc L st M k n := by
  obtain ⟨hd, rfl⟩ := hd
  refine wg_stk (fun hL hs _ _ => vok_cons (hL _ (mem_get.mpr ⟨_, hl⟩)) hs) (fun p e s m args below meth c H locs Ls ad Q X hW hS h hs q => ?_) kk
  have hg := al_get h hl
  
  
  exact lv_iload_n X.1 X.2.1 hd rfl hg q
theorem wg_lload {i : Nat} {x : Int} (hd : Dd I.2.1 pc (.lload i) 2 pc') (hl : L[i]? = some (some (vL x))) (kk : Wg G I XX d mc ms Z pc' L (vL x :: st) M k n) : Wg G I XX d mc ms Z pc L st M k n := by
  obtain ⟨hd, rfl⟩ := hd
  refine wg_stk (fun hL hs _ _ => vok_cons (hL _ (mem_get.mpr ⟨_, hl⟩)) hs) (fun p e s m args below meth c H locs Ls ad Q X hW hS h hs q => ?_) kk
  have hg := al_get h hl
  
  
  exact lv_lload X.1 X.2.1 hd hg q
theorem wg_lload_n {j : Fin 4} {x : Int} (hd : Dd I.2.1 pc (.lload_n j) 1 pc') (hl : L[(j : Nat)]? = some (some (vL x))) (kk : Wg G I XX d mc ms Z pc' L (vL x :: st) M k n) : Wg G I XX d mc ms Z pc L st M k n := by
  obtain ⟨hd, rfl⟩ := hd
  refine wg_stk (fun hL hs _ _ => vok_cons (hL _ (mem_get.mpr ⟨_, hl⟩)) hs) (fun p e s m args below meth c H locs Ls ad Q X hW hS h hs q => ?_) kk
  have hg := al_get h hl
  
  
  exact lv_lload_n X.1 X.2.1 hd rfl hg q
theorem wg_aload {i : Nat} {x : Nat} (hd : Dd I.2.1 pc (.aload i) 2 pc') (hl : L[i]? = some (some (vR x))) (hx : x ≠ 0) (kk : Wg G I XX d mc ms Z pc' L (vR x :: st) M k n) : Wg G I XX d mc ms Z pc L st M k n := by
  obtain ⟨hd, rfl⟩ := hd
  refine wg_stk (fun hL hs _ _ => vok_cons (hL _ (mem_get.mpr ⟨_, hl⟩)) hs) (fun p e s m args below meth c H locs Ls ad Q X hW hS h hs q => ?_) kk
  have hg := al_get h hl
  simp only [cv, cr, if_neg hx] at hg
  simp only [List.map_cons, cv, cr, if_neg hx] at q
  exact lv_aload X.1 X.2.1 hd hg q
theorem wg_aload_n {j : Fin 4} {x : Nat} (hd : Dd I.2.1 pc (.aload_n j) 1 pc') (hl : L[(j : Nat)]? = some (some (vR x))) (hx : x ≠ 0) (kk : Wg G I XX d mc ms Z pc' L (vR x :: st) M k n) : Wg G I XX d mc ms Z pc L st M k n := by
  obtain ⟨hd, rfl⟩ := hd
  refine wg_stk (fun hL hs _ _ => vok_cons (hL _ (mem_get.mpr ⟨_, hl⟩)) hs) (fun p e s m args below meth c H locs Ls ad Q X hW hS h hs q => ?_) kk
  have hg := al_get h hl
  simp only [cv, cr, if_neg hx] at hg
  simp only [List.map_cons, cv, cr, if_neg hx] at q
  exact lv_aload_n X.1 X.2.1 hd rfl hg q
theorem wg_istore {i : Nat} {x : Int} {L' : List (Option AV)} (hd : Dd I.2.1 pc (.istore i) 2 pc') (hi : i < I.2.2.1) (hL' : lset L i (vI x) = L') (kk : Wg G I XX d mc ms Z pc' L' st M k n) : Wg G I XX d mc ms Z pc L (vI x :: st) M k n := by
  obtain ⟨hd, rfl⟩ := hd
  subst hL'
  intro hL hs p e s m args below meth c H locs Ls ad n0 ad0 X hW hS hl hn hE
  
  refine lv_istore X.1 X.2.1 hd hl hi rfl (fun ls' hl' => ?_)
  exact kk (lok_set hL (vok_hd hs)) (vok_tl hs) p e s m args below meth c H locs ls' ad n0 ad0 X hW hS (lv_subset hl' (al_lset)) hn hE
theorem wg_istore_n {j : Fin 4} {x : Int} {L' : List (Option AV)} (hd : Dd I.2.1 pc (.istore_n j) 1 pc') (hi : (j : Nat) < I.2.2.1) (hL' : lset L (j : Nat) (vI x) = L') (kk : Wg G I XX d mc ms Z pc' L' st M k n) : Wg G I XX d mc ms Z pc L (vI x :: st) M k n := by
  obtain ⟨hd, rfl⟩ := hd
  subst hL'
  intro hL hs p e s m args below meth c H locs Ls ad n0 ad0 X hW hS hl hn hE
  
  refine lv_istore_n X.1 X.2.1 hd rfl hl hi rfl (fun ls' hl' => ?_)
  exact kk (lok_set hL (vok_hd hs)) (vok_tl hs) p e s m args below meth c H locs ls' ad n0 ad0 X hW hS (lv_subset hl' (al_lset)) hn hE
theorem wg_lstore {i : Nat} {x : Int} {L' : List (Option AV)} (hd : Dd I.2.1 pc (.lstore i) 2 pc') (hi : i + 1 < I.2.2.1) (hL' : lset2 L i (vL x) = L') (kk : Wg G I XX d mc ms Z pc' L' st M k n) : Wg G I XX d mc ms Z pc L (vL x :: st) M k n := by
  obtain ⟨hd, rfl⟩ := hd
  subst hL'
  intro hL hs p e s m args below meth c H locs Ls ad n0 ad0 X hW hS hl hn hE
  
  refine lv_lstore X.1 X.2.1 hd hl hi rfl (fun ls' hl' => ?_)
  exact kk (lok_set2 hL (vok_hd hs)) (vok_tl hs) p e s m args below meth c H locs ls' ad n0 ad0 X hW hS (lv_subset hl' (al_lset2)) hn hE
theorem wg_lstore_n {j : Fin 4} {x : Int} {L' : List (Option AV)} (hd : Dd I.2.1 pc (.lstore_n j) 1 pc') (hi : (j : Nat) + 1 < I.2.2.1) (hL' : lset2 L (j : Nat) (vL x) = L') (kk : Wg G I XX d mc ms Z pc' L' st M k n) : Wg G I XX d mc ms Z pc L (vL x :: st) M k n := by
  obtain ⟨hd, rfl⟩ := hd
  subst hL'
  intro hL hs p e s m args below meth c H locs Ls ad n0 ad0 X hW hS hl hn hE
  
  refine lv_lstore_n X.1 X.2.1 hd rfl hl hi rfl (fun ls' hl' => ?_)
  exact kk (lok_set2 hL (vok_hd hs)) (vok_tl hs) p e s m args below meth c H locs ls' ad n0 ad0 X hW hS (lv_subset hl' (al_lset2)) hn hE
theorem wg_astore {i : Nat} {x : Nat} {L' : List (Option AV)} (hd : Dd I.2.1 pc (.astore i) 2 pc') (hi : i < I.2.2.1) (hL' : lset L i (vR x) = L') (hx : x ≠ 0) (kk : Wg G I XX d mc ms Z pc' L' st M k n) : Wg G I XX d mc ms Z pc L (vR x :: st) M k n := by
  obtain ⟨hd, rfl⟩ := hd
  subst hL'
  intro hL hs p e s m args below meth c H locs Ls ad n0 ad0 X hW hS hl hn hE
  simp only [List.map_cons, cv, cr, if_neg hx]
  refine lv_astore X.1 X.2.1 hd hl hi rfl (fun ls' hl' => ?_)
  exact kk (lok_set hL (vok_hd hs)) (vok_tl hs) p e s m args below meth c H locs ls' ad n0 ad0 X hW hS (lv_subset hl' (by have h9 := al_lset (ad := ad) (L := L) (i := i) (v := vR x); simp only [cv, cr, if_neg hx] at h9; exact h9)) hn hE
theorem wg_astore_n {j : Fin 4} {x : Nat} {L' : List (Option AV)} (hd : Dd I.2.1 pc (.astore_n j) 1 pc') (hi : (j : Nat) < I.2.2.1) (hL' : lset L (j : Nat) (vR x) = L') (hx : x ≠ 0) (kk : Wg G I XX d mc ms Z pc' L' st M k n) : Wg G I XX d mc ms Z pc L (vR x :: st) M k n := by
  obtain ⟨hd, rfl⟩ := hd
  subst hL'
  intro hL hs p e s m args below meth c H locs Ls ad n0 ad0 X hW hS hl hn hE
  simp only [List.map_cons, cv, cr, if_neg hx]
  refine lv_astore_n X.1 X.2.1 hd rfl hl hi rfl (fun ls' hl' => ?_)
  exact kk (lok_set hL (vok_hd hs)) (vok_tl hs) p e s m args below meth c H locs ls' ad n0 ad0 X hW hS (lv_subset hl' (by have h9 := al_lset (ad := ad) (L := L) (i := (j : Nat)) (v := vR x); simp only [cv, cr, if_neg hx] at h9; exact h9)) hn hE
theorem wg_iinc {i : Nat} {x c0 : Int} {L' : List (Option AV)} (hd : Dd I.2.1 pc (.iinc i c0) 3 pc') (hi : i < I.2.2.1) (hl0 : L[i]? = some (some (vI x))) (hL' : lset L i (vI (x + c0)) = L') (hr : R32 (x + c0)) (kk : Wg G I XX d mc ms Z pc' L' st M k n) : Wg G I XX d mc ms Z pc L st M k n := by
  obtain ⟨hd, rfl⟩ := hd
  subst hL'
  intro hL hs p e s m args below meth c H locs Ls ad n0 ad0 X hW hS hl hn hE
  have h1 : (i, Value.int (Int32.ofInt x)) ∈ al ad L := al_mem.mpr ⟨vI x, hl0, rfl⟩
  obtain ⟨kx, hkx⟩ := List.mem_iff_getElem?.mp h1
  refine lv_iinc X.1 X.2.1 hd hl hkx (v := Int32.ofInt (x + c0)) (by rw [Int32.ofInt_add]) hi rfl (fun ls' hl' => ?_)
  exact kk (lok_set hL hr) hs p e s m args below meth c H locs ls' ad n0 ad0 X hW hS (lv_subset hl' (al_lset (v := vI (x + c0)))) hn hE
theorem wg_iconst {c0 : Int} (hd : Dd I.2.1 pc (.iconst c0) 1 pc') (hr : R32 c0) (kk : Wg G I XX d mc ms Z pc' L (vI c0 :: st) M k n) : Wg G I XX d mc ms Z pc L st M k n := by
  obtain ⟨hd, rfl⟩ := hd
  exact wg_stk (fun hL hs _ _ => vcI hr hs) (fun p e s m args below meth c H locs Ls ad Q X hW hS h hs q => lv_iconst X.1 X.2.1 hd rfl q) kk
theorem wg_bipush {c0 : Int} (hd : Dd I.2.1 pc (.bipush c0) 2 pc') (hr : -128 ≤ c0 ∧ c0 < 128) (kk : Wg G I XX d mc ms Z pc' L (vI c0 :: st) M k n) : Wg G I XX d mc ms Z pc L st M k n := by
  obtain ⟨hd, rfl⟩ := hd
  exact wg_stk (fun hL hs _ _ => vcI (show R32 c0 from ⟨by omega, by omega⟩) hs) (fun p e s m args below meth c H locs Ls ad Q X hW hS h hs q => lv_bipush X.1 X.2.1 hd (o8 hr) q) kk
theorem wg_sipush {c0 : Int} (hd : Dd I.2.1 pc (.sipush c0) 3 pc') (hr : -32768 ≤ c0 ∧ c0 < 32768) (kk : Wg G I XX d mc ms Z pc' L (vI c0 :: st) M k n) : Wg G I XX d mc ms Z pc L st M k n := by
  obtain ⟨hd, rfl⟩ := hd
  exact wg_stk (fun hL hs _ _ => vcI (show R32 c0 from ⟨by omega, by omega⟩) hs) (fun p e s m args below meth c H locs Ls ad Q X hW hS h hs q => lv_sipush X.1 X.2.1 hd (o16 hr) q) kk
theorem wg_lconst {c0 : Fin 2} {y : Int} (hd : Dd I.2.1 pc (.lconst c0) 1 pc') (hy : ((c0 : Nat) : Int) = y) (kk : Wg G I XX d mc ms Z pc' L (vL y :: st) M k n) : Wg G I XX d mc ms Z pc L st M k n := by
  obtain ⟨hd, rfl⟩ := hd
  subst hy
  exact wg_stk (fun hL hs _ _ => vcL (show R64 ((c0 : Nat) : Int) from ⟨by omega, by omega⟩) hs) (fun p e s m args below meth c H locs Ls ad Q X hW hS h hs q => lv_lconst X.1 X.2.1 hd (by rw [← Int64.ofInt_eq_ofNat] <;> rfl) q) kk
theorem wg_ldc {ix : Nat} {y : Int} (hd : Dd I.2.1 pc (.ldc ix) 2 pc') (hw : Cond.constant I.1.cls ix (Int32.ofInt y) ∈ WS) (hr : R32 y) (kk : Wg G I XX d mc ms Z pc' L (vI y :: st) M k n) : Wg G I XX d mc ms Z pc L st M k n := by
  obtain ⟨hd, rfl⟩ := hd
  exact wg_stk (fun hL hs _ _ => vcI hr hs) (fun p e s m args below meth c H locs Ls ad Q X hW hS h hs q => lv_ldc X.1 X.2.1 X.2.2.2.2.2.1 (X.2.2.2.2.2.2.1 _ hw) hd q) kk
theorem wg_ldc2 {ix : Nat} {y : Int} (hd : Dd I.2.1 pc (.ldc2_w ix) 3 pc') (hw : Cond.constantLong I.1.cls ix (Int64.ofInt y) ∈ WS) (hr : R64 y) (kk : Wg G I XX d mc ms Z pc' L (vL y :: st) M k n) : Wg G I XX d mc ms Z pc L st M k n := by
  obtain ⟨hd, rfl⟩ := hd
  exact wg_stk (fun hL hs _ _ => vcL hr hs) (fun p e s m args below meth c H locs Ls ad Q X hW hS h hs q => lv_ldc2 X.1 X.2.1 X.2.2.2.2.2.1 (X.2.2.2.2.2.2.1 _ hw) hd q) kk
theorem wg_ldcS (hd : Dd I.2.1 pc (.ldc 80) 2 pc') (hI : I.1.cls = RX8) (kk : Wg G I XX d mc ms Z pc' L (vR 777 :: st) M k n) : Wg G I XX d mc ms Z pc L st M k n := by
  obtain ⟨hd, rfl⟩ := hd
  refine wg_stk (fun hL hs _ _ => vcR (Or.inr (by decide)) hs) (fun p e s m args below meth c H locs Ls ad Q X hW hS h hs q => ?_) kk
  have e1 : cv ad (vR 777) = .ref (G.2.2.2.2 777) := by
    show cr ad 777 = _
    unfold cr
    rw [if_neg (by decide), hW.2.2.2.2.1 777 (by decide)]
  rw [List.map_cons, e1] at q
  exact va_ldcS X.1 X.2.1 (by have := X.2.2.2.2.2.1; rw [hI] at this; exact this) X.2.2.2.2.2.2.2.2.2.2.1.1 hd q
theorem wg_iadd {x y : Int} (hd : Dd I.2.1 pc (.iadd) 1 pc') (hr : R32 (x + y)) (kk : Wg G I XX d mc ms Z pc' L (vI (x + y) :: st) M k n) : Wg G I XX d mc ms Z pc L (vI y :: vI x :: st) M k n := by
  obtain ⟨hd, rfl⟩ := hd
  refine wg_stk (fun hL hs _ _ => vcI (hr) (vok_tl (vok_tl hs))) (fun p e s m args below meth c H locs Ls ad Q X hW hS h hs q => ?_) kk
  have hy : R32 y := vok_hd hs
  have hx : R32 x := vok_hd (vok_tl hs)
  simp only [List.map_cons, cv, Int32.ofInt_add] at q
  exact lv_iadd X.1 X.2.1 hd q
theorem wg_isub {x y : Int} (hd : Dd I.2.1 pc (.isub) 1 pc') (hr : R32 (x - y)) (kk : Wg G I XX d mc ms Z pc' L (vI (x - y) :: st) M k n) : Wg G I XX d mc ms Z pc L (vI y :: vI x :: st) M k n := by
  obtain ⟨hd, rfl⟩ := hd
  refine wg_stk (fun hL hs _ _ => vcI (hr) (vok_tl (vok_tl hs))) (fun p e s m args below meth c H locs Ls ad Q X hW hS h hs q => ?_) kk
  have hy : R32 y := vok_hd hs
  have hx : R32 x := vok_hd (vok_tl hs)
  simp only [List.map_cons, cv, Int32.ofInt_sub] at q
  exact lv_isub X.1 X.2.1 hd q
theorem wg_imul {x y : Int} (hd : Dd I.2.1 pc (.imul) 1 pc') (hr : R32 (x * y)) (kk : Wg G I XX d mc ms Z pc' L (vI (x * y) :: st) M k n) : Wg G I XX d mc ms Z pc L (vI y :: vI x :: st) M k n := by
  obtain ⟨hd, rfl⟩ := hd
  refine wg_stk (fun hL hs _ _ => vcI (hr) (vok_tl (vok_tl hs))) (fun p e s m args below meth c H locs Ls ad Q X hW hS h hs q => ?_) kk
  have hy : R32 y := vok_hd hs
  have hx : R32 x := vok_hd (vok_tl hs)
  simp only [List.map_cons, cv, Int32.ofInt_mul] at q
  exact lv_imul X.1 X.2.1 hd q
theorem wg_ladd {x y : Int} (hd : Dd I.2.1 pc (.ladd) 1 pc') (hr : R64 (x + y)) (kk : Wg G I XX d mc ms Z pc' L (vL (x + y) :: st) M k n) : Wg G I XX d mc ms Z pc L (vL y :: vL x :: st) M k n := by
  obtain ⟨hd, rfl⟩ := hd
  refine wg_stk (fun hL hs _ _ => vcL (hr) (vok_tl (vok_tl hs))) (fun p e s m args below meth c H locs Ls ad Q X hW hS h hs q => ?_) kk
  have hy : R64 y := vok_hd hs
  have hx : R64 x := vok_hd (vok_tl hs)
  simp only [List.map_cons, cv, Int64.ofInt_add] at q
  exact lv_ladd X.1 X.2.1 hd q
theorem wg_lsub {x y : Int} (hd : Dd I.2.1 pc (.lsub) 1 pc') (hr : R64 (x - y)) (kk : Wg G I XX d mc ms Z pc' L (vL (x - y) :: st) M k n) : Wg G I XX d mc ms Z pc L (vL y :: vL x :: st) M k n := by
  obtain ⟨hd, rfl⟩ := hd
  refine wg_stk (fun hL hs _ _ => vcL (hr) (vok_tl (vok_tl hs))) (fun p e s m args below meth c H locs Ls ad Q X hW hS h hs q => ?_) kk
  have hy : R64 y := vok_hd hs
  have hx : R64 x := vok_hd (vok_tl hs)
  simp only [List.map_cons, cv, Int64.ofInt_sub] at q
  exact lv_lsub X.1 X.2.1 hd q
theorem wg_lmul {x y : Int} (hd : Dd I.2.1 pc (.lmul) 1 pc') (hr : R64 (x * y)) (kk : Wg G I XX d mc ms Z pc' L (vL (x * y) :: st) M k n) : Wg G I XX d mc ms Z pc L (vL y :: vL x :: st) M k n := by
  obtain ⟨hd, rfl⟩ := hd
  refine wg_stk (fun hL hs _ _ => vcL (hr) (vok_tl (vok_tl hs))) (fun p e s m args below meth c H locs Ls ad Q X hW hS h hs q => ?_) kk
  have hy : R64 y := vok_hd hs
  have hx : R64 x := vok_hd (vok_tl hs)
  simp only [List.map_cons, cv, Int64.ofInt_mul] at q
  exact lv_lmul X.1 X.2.1 hd q
theorem wg_iand {x y : Int} (hd : Dd I.2.1 pc (.iand) 1 pc') (kk : Wg G I XX d mc ms Z pc' L (vI (iandv x y) :: st) M k n) : Wg G I XX d mc ms Z pc L (vI y :: vI x :: st) M k n := by
  obtain ⟨hd, rfl⟩ := hd
  refine wg_stk (fun hL hs _ _ => vcI (r32_toInt _) (vok_tl (vok_tl hs))) (fun p e s m args below meth c H locs Ls ad Q X hW hS h hs q => ?_) kk
  have hy : R32 y := vok_hd hs
  have hx : R32 x := vok_hd (vok_tl hs)
  simp only [List.map_cons, cv, iandv, Int32.ofInt_toInt] at q
  exact lv_iand X.1 X.2.1 hd q
theorem wg_ior {x y : Int} (hd : Dd I.2.1 pc (.ior) 1 pc') (kk : Wg G I XX d mc ms Z pc' L (vI (iorv x y) :: st) M k n) : Wg G I XX d mc ms Z pc L (vI y :: vI x :: st) M k n := by
  obtain ⟨hd, rfl⟩ := hd
  refine wg_stk (fun hL hs _ _ => vcI (r32_toInt _) (vok_tl (vok_tl hs))) (fun p e s m args below meth c H locs Ls ad Q X hW hS h hs q => ?_) kk
  have hy : R32 y := vok_hd hs
  have hx : R32 x := vok_hd (vok_tl hs)
  simp only [List.map_cons, cv, iorv, Int32.ofInt_toInt] at q
  exact lv_ior X.1 X.2.1 hd q
theorem wg_ixor {x y : Int} (hd : Dd I.2.1 pc (.ixor) 1 pc') (kk : Wg G I XX d mc ms Z pc' L (vI (ixorv x y) :: st) M k n) : Wg G I XX d mc ms Z pc L (vI y :: vI x :: st) M k n := by
  obtain ⟨hd, rfl⟩ := hd
  refine wg_stk (fun hL hs _ _ => vcI (r32_toInt _) (vok_tl (vok_tl hs))) (fun p e s m args below meth c H locs Ls ad Q X hW hS h hs q => ?_) kk
  have hy : R32 y := vok_hd hs
  have hx : R32 x := vok_hd (vok_tl hs)
  simp only [List.map_cons, cv, ixorv, Int32.ofInt_toInt] at q
  exact lv_ixor X.1 X.2.1 hd q
theorem wg_ishl {x y : Int} (hd : Dd I.2.1 pc (.ishl) 1 pc') (kk : Wg G I XX d mc ms Z pc' L (vI (ishlv x y) :: st) M k n) : Wg G I XX d mc ms Z pc L (vI y :: vI x :: st) M k n := by
  obtain ⟨hd, rfl⟩ := hd
  refine wg_stk (fun hL hs _ _ => vcI (r32_toInt _) (vok_tl (vok_tl hs))) (fun p e s m args below meth c H locs Ls ad Q X hW hS h hs q => ?_) kk
  have hy : R32 y := vok_hd hs
  have hx : R32 x := vok_hd (vok_tl hs)
  simp only [List.map_cons, cv, ishlv, Int32.ofInt_toInt] at q
  exact lv_ishl X.1 X.2.1 hd q
theorem wg_ishr {x y : Int} (hd : Dd I.2.1 pc (.ishr) 1 pc') (kk : Wg G I XX d mc ms Z pc' L (vI (ishrv x y) :: st) M k n) : Wg G I XX d mc ms Z pc L (vI y :: vI x :: st) M k n := by
  obtain ⟨hd, rfl⟩ := hd
  refine wg_stk (fun hL hs _ _ => vcI (r32_toInt _) (vok_tl (vok_tl hs))) (fun p e s m args below meth c H locs Ls ad Q X hW hS h hs q => ?_) kk
  have hy : R32 y := vok_hd hs
  have hx : R32 x := vok_hd (vok_tl hs)
  simp only [List.map_cons, cv, ishrv, Int32.ofInt_toInt] at q
  exact lv_ishr X.1 X.2.1 hd q
theorem wg_iushr {x y : Int} (hd : Dd I.2.1 pc (.iushr) 1 pc') (kk : Wg G I XX d mc ms Z pc' L (vI (iushrv x y) :: st) M k n) : Wg G I XX d mc ms Z pc L (vI y :: vI x :: st) M k n := by
  obtain ⟨hd, rfl⟩ := hd
  refine wg_stk (fun hL hs _ _ => vcI (r32_toInt _) (vok_tl (vok_tl hs))) (fun p e s m args below meth c H locs Ls ad Q X hW hS h hs q => ?_) kk
  have hy : R32 y := vok_hd hs
  have hx : R32 x := vok_hd (vok_tl hs)
  simp only [List.map_cons, cv, iushrv, Int32.ofInt_toInt] at q
  exact lv_iushr X.1 X.2.1 hd rfl q
theorem wg_idiv {x y : Int} (hd : Dd I.2.1 pc (.idiv) 1 pc') (hy0 : y ≠ 0) (hr : R32 (x.tdiv y)) (kk : Wg G I XX d mc ms Z pc' L (vI (x.tdiv y) :: st) M k n) : Wg G I XX d mc ms Z pc L (vI y :: vI x :: st) M k n := by
  obtain ⟨hd, rfl⟩ := hd
  refine wg_stk (fun hL hs _ _ => vcI (hr) (vok_tl (vok_tl hs))) (fun p e s m args below meth c H locs Ls ad Q X hW hS h hs q => ?_) kk
  have hy : R32 y := vok_hd hs
  have hx : R32 x := vok_hd (vok_tl hs)
  simp only [List.map_cons, cv, ← o32_div hx hy] at q
  exact lv_idiv X.1 X.2.1 hd (fun z => hy0 ((o32_eq hy z32).mp (z.trans o32_0.symm))) q
theorem wg_irem {x y : Int} (hd : Dd I.2.1 pc (.irem) 1 pc') (hy0 : y ≠ 0) (kk : Wg G I XX d mc ms Z pc' L (vI (x.tmod y) :: st) M k n) : Wg G I XX d mc ms Z pc L (vI y :: vI x :: st) M k n := by
  obtain ⟨hd, rfl⟩ := hd
  refine wg_stk (fun hL hs _ _ => vcI (tmod_r (vok_hd (vok_tl hs))) (vok_tl (vok_tl hs))) (fun p e s m args below meth c H locs Ls ad Q X hW hS h hs q => ?_) kk
  have hy : R32 y := vok_hd hs
  have hx : R32 x := vok_hd (vok_tl hs)
  simp only [List.map_cons, cv, ← o32_rem hx hy] at q
  exact lv_irem X.1 X.2.1 hd (fun z => hy0 ((o32_eq hy z32).mp (z.trans o32_0.symm))) q
theorem wg_ldiv {x y : Int} (hd : Dd I.2.1 pc (.ldiv) 1 pc') (hy0 : y ≠ 0) (hr : R64 (x.tdiv y)) (kk : Wg G I XX d mc ms Z pc' L (vL (x.tdiv y) :: st) M k n) : Wg G I XX d mc ms Z pc L (vL y :: vL x :: st) M k n := by
  obtain ⟨hd, rfl⟩ := hd
  refine wg_stk (fun hL hs _ _ => vcL (hr) (vok_tl (vok_tl hs))) (fun p e s m args below meth c H locs Ls ad Q X hW hS h hs q => ?_) kk
  have hy : R64 y := vok_hd hs
  have hx : R64 x := vok_hd (vok_tl hs)
  simp only [List.map_cons, cv, ← o64_div hx hy] at q
  exact lv_ldiv X.1 X.2.1 hd (fun z => hy0 ((o64_eq hy ⟨by decide, by decide⟩).mp (z.trans o64_0.symm))) q
theorem wg_lrem {x y : Int} (hd : Dd I.2.1 pc (.lrem) 1 pc') (hy0 : y ≠ 0) (kk : Wg G I XX d mc ms Z pc' L (vL (x.tmod y) :: st) M k n) : Wg G I XX d mc ms Z pc L (vL y :: vL x :: st) M k n := by
  obtain ⟨hd, rfl⟩ := hd
  refine wg_stk (fun hL hs _ _ => vcL (tmod_r (vok_hd (vok_tl hs))) (vok_tl (vok_tl hs))) (fun p e s m args below meth c H locs Ls ad Q X hW hS h hs q => ?_) kk
  have hy : R64 y := vok_hd hs
  have hx : R64 x := vok_hd (vok_tl hs)
  simp only [List.map_cons, cv, ← o64_rem hx hy] at q
  exact lv_lrem X.1 X.2.1 hd (fun z => hy0 ((o64_eq hy ⟨by decide, by decide⟩).mp (z.trans o64_0.symm))) q
theorem wg_ineg {x : Int} (hd : Dd I.2.1 pc (.ineg) 1 pc') (hr : R32 (-x)) (kk : Wg G I XX d mc ms Z pc' L (vI (-x) :: st) M k n) : Wg G I XX d mc ms Z pc L (vI x :: st) M k n := by
  obtain ⟨hd, rfl⟩ := hd
  refine wg_stk (fun hL hs _ _ => vcI hr (vok_tl hs)) (fun p e s m args below meth c H locs Ls ad Q X hW hS h hs q => ?_) kk
  simp only [List.map_cons, cv, Int32.ofInt_neg] at q
  exact lv_ineg X.1 X.2.1 hd q
theorem wg_i2l {x : Int} (hd : Dd I.2.1 pc (.i2l) 1 pc') (kk : Wg G I XX d mc ms Z pc' L (vL x :: st) M k n) : Wg G I XX d mc ms Z pc L (vI x :: st) M k n := by
  obtain ⟨hd, rfl⟩ := hd
  refine wg_stk (fun hL hs _ _ => vcL (show R64 x from by have h : R32 x := vok_hd hs; exact ⟨by omega, by omega⟩) (vok_tl hs)) (fun p e s m args below meth c H locs Ls ad Q X hW hS h hs q => ?_) kk
  exact lv_i2l X.1 X.2.1 hd (o32_l (show R32 x from vok_hd hs)) q
theorem wg_l2i {x : Int} (hd : Dd I.2.1 pc (.l2i) 1 pc') (hr : R32 x) (kk : Wg G I XX d mc ms Z pc' L (vI x :: st) M k n) : Wg G I XX d mc ms Z pc L (vL x :: st) M k n := by
  obtain ⟨hd, rfl⟩ := hd
  refine wg_stk (fun hL hs _ _ => vcI hr (vok_tl hs)) (fun p e s m args below meth c H locs Ls ad Q X hW hS h hs q => ?_) kk
  exact lv_l2i X.1 X.2.1 hd Int64.toInt32_ofInt q
theorem wg_lcmp {x y : Int} (hd : Dd I.2.1 pc (.lcmp) 1 pc') (kk : Wg G I XX d mc ms Z pc' L (vI (lcmpv x y) :: st) M k n) : Wg G I XX d mc ms Z pc L (vL y :: vL x :: st) M k n := by
  obtain ⟨hd, rfl⟩ := hd
  refine wg_stk (fun hL hs _ _ => vcI (lcmpv_r x y) (vok_tl (vok_tl hs))) (fun p e s m args below meth c H locs Ls ad Q X hW hS h hs q => ?_) kk
  have hy : R64 y := vok_hd hs
  have hx : R64 x := vok_hd (vok_tl hs)
  simp only [List.map_cons, cv, ← lcmp_o hx hy] at q
  exact W.lcmp X.1 X.2.1 hd q
theorem wg_dup {a : AV} (hd : Dd I.2.1 pc (.dup) 1 pc') (ha : wide a = false) (kk : Wg G I XX d mc ms Z pc' L (a :: a :: st) M k n) : Wg G I XX d mc ms Z pc L (a :: st) M k n := by
  obtain ⟨hd, rfl⟩ := hd
  exact wg_stk (fun hL hs _ _ => vok_cons (vok_hd hs) hs) (fun p e s m args below meth c H locs Ls ad Q X hW hS h hs q => lv_dup X.1 X.2.1 hd (by rw [cv_cat, ha]; rfl) q) kk
theorem wg_pop {a : AV} (hd : Dd I.2.1 pc (.pop) 1 pc') (ha : wide a = false) (kk : Wg G I XX d mc ms Z pc' L st M k n) : Wg G I XX d mc ms Z pc L (a :: st) M k n := by
  obtain ⟨hd, rfl⟩ := hd
  exact wg_stk (fun hL hs _ _ => vok_tl hs) (fun p e s m args below meth c H locs Ls ad Q X hW hS h hs q => lv_pop X.1 X.2.1 hd (by rw [cv_cat, ha]; rfl) q) kk
theorem wg_dup2 {a b : AV} (hd : Dd I.2.1 pc (.dup2) 1 pc') (ha : wide a = false) (hb : wide b = false) (kk : Wg G I XX d mc ms Z pc' L (a :: b :: a :: b :: st) M k n) : Wg G I XX d mc ms Z pc L (a :: b :: st) M k n := by
  obtain ⟨hd, rfl⟩ := hd
  exact wg_stk (fun hL hs _ _ => vok_cons (vok_hd hs) (vok_cons (vok_hd (vok_tl hs)) hs)) (fun p e s m args below meth c H locs Ls ad Q X hW hS h hs q => lv_dup2_11 X.1 X.2.1 hd (by rw [cv_cat, ha]; rfl) (by rw [cv_cat, hb]; rfl) q) kk
theorem wg_goto {off : Int} {tgt : Nat} (hd : Dd I.2.1 pc (.goto off) 3 pc') (ht : (pc : Int) + off = (tgt : Int)) (kk : Wg G I XX d mc ms Z tgt L st M k n) : Wg G I XX d mc ms Z pc L st M k n := by
  obtain ⟨hd, rfl⟩ := hd
  exact wg_stk (fun hL hs _ _ => hs) (fun p e s m args below meth c H locs Ls ad Q X hW hS h hs q => lv_goto X.1 X.2.1 hd ht q) kk
theorem wg_weak (bs : List Bool) {L' : List (Option AV)} (h' : wkL L bs = L') (kk : Wg G I XX d mc ms Z pc L' st M k n) : Wg G I XX d mc ms Z pc L st M k n := by
  subst h'
  intro hL hs p e s m args below meth c H locs Ls ad n0 ad0 X hW hS hl hn hE
  refine kk (fun v hv => ?_) hs p e s m args below meth c H locs Ls ad n0 ad0 X hW hS (lv_subset hl fun q hq => ?_) hn hE
  · obtain ⟨i, hi⟩ := mem_get.mp hv
    exact hL v (mem_get.mpr ⟨i, wkL_get hi⟩)
  · obtain ⟨v, h1, h2⟩ := al_mem.mp hq
    exact al_mem.mpr ⟨v, wkL_get h1, h2⟩
/-- what holds of every state that a walk comes to -/
theorem wg_ok (kk : (∀ v, some v ∈ L → vok M.1 v) → (∀ v ∈ st, vok M.1 v) → (∀ p k, R32 (M.2.1 p k)) → (∀ p k, M.2.2 p k ≤ M.1) → M.1 < 700 → Wg G I XX d mc ms Z pc L st M k n) : Wg G I XX d mc ms Z pc L st M k n := by
  intro hL hs p e s m args below meth c H locs Ls ad n0 ad0 X hW hS hl hn hE
  exact kk hL hs hW.2.2.1 hW.2.2.2.1 hW.2.2.2.2.2 hL hs p e s m args below meth c H locs Ls ad n0 ad0 X hW hS hl hn hE
theorem wg_icmp_eq {x y : Int} {off : Int} {tgt : Nat} (hd : Dd I.2.1 pc (.if_icmp .eq off) 3 pc') (ht : (pc : Int) + off = (tgt : Int)) (kt : x = y → Wg G I XX d mc ms Z tgt L st M k n) (kf : ¬ (x = y) → Wg G I XX d mc ms Z pc' L st M k n) : Wg G I XX d mc ms Z pc L (vI y :: vI x :: st) M k n := by
  obtain ⟨hd, rfl⟩ := hd
  intro hL hs p e s m args below meth c H locs Ls ad n0 ad0 X hW hS hl hn hE
  have hy : R32 y := vok_hd hs
  have hx : R32 x := vok_hd (vok_tl hs)
  exact lv_icmp_eq X.1 X.2.1 hd ht (fun z => kt ((o32_eq hx hy).mp z) hL (vok_tl (vok_tl hs)) p e s m args below meth c H locs Ls ad n0 ad0 X hW hS hl hn hE) (fun z => kf (fun u => z ((o32_eq hx hy).mpr u)) hL (vok_tl (vok_tl hs)) p e s m args below meth c H locs Ls ad n0 ad0 X hW hS hl hn hE)
theorem wg_icmp_ne {x y : Int} {off : Int} {tgt : Nat} (hd : Dd I.2.1 pc (.if_icmp .ne off) 3 pc') (ht : (pc : Int) + off = (tgt : Int)) (kt : x ≠ y → Wg G I XX d mc ms Z tgt L st M k n) (kf : x = y → Wg G I XX d mc ms Z pc' L st M k n) : Wg G I XX d mc ms Z pc L (vI y :: vI x :: st) M k n := by
  obtain ⟨hd, rfl⟩ := hd
  intro hL hs p e s m args below meth c H locs Ls ad n0 ad0 X hW hS hl hn hE
  have hy : R32 y := vok_hd hs
  have hx : R32 x := vok_hd (vok_tl hs)
  exact lv_icmp_ne X.1 X.2.1 hd ht (fun z => kt ((not_congr (o32_eq hx hy)).mp z) hL (vok_tl (vok_tl hs)) p e s m args below meth c H locs Ls ad n0 ad0 X hW hS hl hn hE) (fun z => kf ((o32_eq hx hy).mp z) hL (vok_tl (vok_tl hs)) p e s m args below meth c H locs Ls ad n0 ad0 X hW hS hl hn hE)
theorem wg_icmp_lt {x y : Int} {off : Int} {tgt : Nat} (hd : Dd I.2.1 pc (.if_icmp .lt off) 3 pc') (ht : (pc : Int) + off = (tgt : Int)) (kt : x < y → Wg G I XX d mc ms Z tgt L st M k n) (kf : ¬ (x < y) → Wg G I XX d mc ms Z pc' L st M k n) : Wg G I XX d mc ms Z pc L (vI y :: vI x :: st) M k n := by
  obtain ⟨hd, rfl⟩ := hd
  intro hL hs p e s m args below meth c H locs Ls ad n0 ad0 X hW hS hl hn hE
  have hy : R32 y := vok_hd hs
  have hx : R32 x := vok_hd (vok_tl hs)
  exact lv_icmp_lt X.1 X.2.1 hd ht (fun z => kt ((o32_lt hx hy).mp z) hL (vok_tl (vok_tl hs)) p e s m args below meth c H locs Ls ad n0 ad0 X hW hS hl hn hE) (fun z => kf (fun u => z ((o32_lt hx hy).mpr u)) hL (vok_tl (vok_tl hs)) p e s m args below meth c H locs Ls ad n0 ad0 X hW hS hl hn hE)
theorem wg_icmp_ge {x y : Int} {off : Int} {tgt : Nat} (hd : Dd I.2.1 pc (.if_icmp .ge off) 3 pc') (ht : (pc : Int) + off = (tgt : Int)) (kt : y ≤ x → Wg G I XX d mc ms Z tgt L st M k n) (kf : ¬ (y ≤ x) → Wg G I XX d mc ms Z pc' L st M k n) : Wg G I XX d mc ms Z pc L (vI y :: vI x :: st) M k n := by
  obtain ⟨hd, rfl⟩ := hd
  intro hL hs p e s m args below meth c H locs Ls ad n0 ad0 X hW hS hl hn hE
  have hy : R32 y := vok_hd hs
  have hx : R32 x := vok_hd (vok_tl hs)
  exact lv_icmp_ge X.1 X.2.1 hd ht (fun z => kt ((o32_le hy hx).mp z) hL (vok_tl (vok_tl hs)) p e s m args below meth c H locs Ls ad n0 ad0 X hW hS hl hn hE) (fun z => kf (fun u => z ((o32_le hy hx).mpr u)) hL (vok_tl (vok_tl hs)) p e s m args below meth c H locs Ls ad n0 ad0 X hW hS hl hn hE)
theorem wg_icmp_gt {x y : Int} {off : Int} {tgt : Nat} (hd : Dd I.2.1 pc (.if_icmp .gt off) 3 pc') (ht : (pc : Int) + off = (tgt : Int)) (kt : y < x → Wg G I XX d mc ms Z tgt L st M k n) (kf : ¬ (y < x) → Wg G I XX d mc ms Z pc' L st M k n) : Wg G I XX d mc ms Z pc L (vI y :: vI x :: st) M k n := by
  obtain ⟨hd, rfl⟩ := hd
  intro hL hs p e s m args below meth c H locs Ls ad n0 ad0 X hW hS hl hn hE
  have hy : R32 y := vok_hd hs
  have hx : R32 x := vok_hd (vok_tl hs)
  exact lv_icmp_gt X.1 X.2.1 hd ht (fun z => kt ((o32_lt hy hx).mp z) hL (vok_tl (vok_tl hs)) p e s m args below meth c H locs Ls ad n0 ad0 X hW hS hl hn hE) (fun z => kf (fun u => z ((o32_lt hy hx).mpr u)) hL (vok_tl (vok_tl hs)) p e s m args below meth c H locs Ls ad n0 ad0 X hW hS hl hn hE)
theorem wg_icmp_le {x y : Int} {off : Int} {tgt : Nat} (hd : Dd I.2.1 pc (.if_icmp .le off) 3 pc') (ht : (pc : Int) + off = (tgt : Int)) (kt : x ≤ y → Wg G I XX d mc ms Z tgt L st M k n) (kf : ¬ (x ≤ y) → Wg G I XX d mc ms Z pc' L st M k n) : Wg G I XX d mc ms Z pc L (vI y :: vI x :: st) M k n := by
  obtain ⟨hd, rfl⟩ := hd
  intro hL hs p e s m args below meth c H locs Ls ad n0 ad0 X hW hS hl hn hE
  have hy : R32 y := vok_hd hs
  have hx : R32 x := vok_hd (vok_tl hs)
  exact lv_icmp_le X.1 X.2.1 hd ht (fun z => kt ((o32_le hx hy).mp z) hL (vok_tl (vok_tl hs)) p e s m args below meth c H locs Ls ad n0 ad0 X hW hS hl hn hE) (fun z => kf (fun u => z ((o32_le hx hy).mpr u)) hL (vok_tl (vok_tl hs)) p e s m args below meth c H locs Ls ad n0 ad0 X hW hS hl hn hE)
theorem wg_if_eq {x : Int} {off : Int} {tgt : Nat} (hd : Dd I.2.1 pc (.ifCond .eq off) 3 pc') (ht : (pc : Int) + off = (tgt : Int)) (kt : x = 0 → Wg G I XX d mc ms Z tgt L st M k n) (kf : ¬ (x = 0) → Wg G I XX d mc ms Z pc' L st M k n) : Wg G I XX d mc ms Z pc L (vI x :: st) M k n := by
  obtain ⟨hd, rfl⟩ := hd
  intro hL hs p e s m args below meth c H locs Ls ad n0 ad0 X hW hS hl hn hE
  have hx : R32 x := vok_hd hs
  exact lv_if_eq X.1 X.2.1 hd ht (fun z => kt ((o32_eq hx z32).mp z) hL (vok_tl hs) p e s m args below meth c H locs Ls ad n0 ad0 X hW hS hl hn hE) (fun z => kf (fun u => z ((o32_eq hx z32).mpr u)) hL (vok_tl hs) p e s m args below meth c H locs Ls ad n0 ad0 X hW hS hl hn hE)
theorem wg_if_ne {x : Int} {off : Int} {tgt : Nat} (hd : Dd I.2.1 pc (.ifCond .ne off) 3 pc') (ht : (pc : Int) + off = (tgt : Int)) (kt : x ≠ 0 → Wg G I XX d mc ms Z tgt L st M k n) (kf : x = 0 → Wg G I XX d mc ms Z pc' L st M k n) : Wg G I XX d mc ms Z pc L (vI x :: st) M k n := by
  obtain ⟨hd, rfl⟩ := hd
  intro hL hs p e s m args below meth c H locs Ls ad n0 ad0 X hW hS hl hn hE
  have hx : R32 x := vok_hd hs
  exact lv_if_ne X.1 X.2.1 hd ht (fun z => kt ((not_congr (o32_eq hx z32)).mp z) hL (vok_tl hs) p e s m args below meth c H locs Ls ad n0 ad0 X hW hS hl hn hE) (fun z => kf ((o32_eq hx z32).mp z) hL (vok_tl hs) p e s m args below meth c H locs Ls ad n0 ad0 X hW hS hl hn hE)
theorem wg_if_lt {x : Int} {off : Int} {tgt : Nat} (hd : Dd I.2.1 pc (.ifCond .lt off) 3 pc') (ht : (pc : Int) + off = (tgt : Int)) (kt : x < 0 → Wg G I XX d mc ms Z tgt L st M k n) (kf : ¬ (x < 0) → Wg G I XX d mc ms Z pc' L st M k n) : Wg G I XX d mc ms Z pc L (vI x :: st) M k n := by
  obtain ⟨hd, rfl⟩ := hd
  intro hL hs p e s m args below meth c H locs Ls ad n0 ad0 X hW hS hl hn hE
  have hx : R32 x := vok_hd hs
  exact lv_if_lt X.1 X.2.1 hd ht (fun z => kt ((o32_lt hx z32).mp z) hL (vok_tl hs) p e s m args below meth c H locs Ls ad n0 ad0 X hW hS hl hn hE) (fun z => kf (fun u => z ((o32_lt hx z32).mpr u)) hL (vok_tl hs) p e s m args below meth c H locs Ls ad n0 ad0 X hW hS hl hn hE)
theorem wg_if_ge {x : Int} {off : Int} {tgt : Nat} (hd : Dd I.2.1 pc (.ifCond .ge off) 3 pc') (ht : (pc : Int) + off = (tgt : Int)) (kt : 0 ≤ x → Wg G I XX d mc ms Z tgt L st M k n) (kf : ¬ (0 ≤ x) → Wg G I XX d mc ms Z pc' L st M k n) : Wg G I XX d mc ms Z pc L (vI x :: st) M k n := by
  obtain ⟨hd, rfl⟩ := hd
  intro hL hs p e s m args below meth c H locs Ls ad n0 ad0 X hW hS hl hn hE
  have hx : R32 x := vok_hd hs
  exact lv_if_ge X.1 X.2.1 hd ht (fun z => kt ((o32_le z32 hx).mp z) hL (vok_tl hs) p e s m args below meth c H locs Ls ad n0 ad0 X hW hS hl hn hE) (fun z => kf (fun u => z ((o32_le z32 hx).mpr u)) hL (vok_tl hs) p e s m args below meth c H locs Ls ad n0 ad0 X hW hS hl hn hE)
theorem wg_if_gt {x : Int} {off : Int} {tgt : Nat} (hd : Dd I.2.1 pc (.ifCond .gt off) 3 pc') (ht : (pc : Int) + off = (tgt : Int)) (kt : 0 < x → Wg G I XX d mc ms Z tgt L st M k n) (kf : ¬ (0 < x) → Wg G I XX d mc ms Z pc' L st M k n) : Wg G I XX d mc ms Z pc L (vI x :: st) M k n := by
  obtain ⟨hd, rfl⟩ := hd
  intro hL hs p e s m args below meth c H locs Ls ad n0 ad0 X hW hS hl hn hE
  have hx : R32 x := vok_hd hs
  exact lv_if_gt X.1 X.2.1 hd ht (fun z => kt ((o32_lt z32 hx).mp z) hL (vok_tl hs) p e s m args below meth c H locs Ls ad n0 ad0 X hW hS hl hn hE) (fun z => kf (fun u => z ((o32_lt z32 hx).mpr u)) hL (vok_tl hs) p e s m args below meth c H locs Ls ad n0 ad0 X hW hS hl hn hE)
theorem wg_if_le {x : Int} {off : Int} {tgt : Nat} (hd : Dd I.2.1 pc (.ifCond .le off) 3 pc') (ht : (pc : Int) + off = (tgt : Int)) (kt : x ≤ 0 → Wg G I XX d mc ms Z tgt L st M k n) (kf : ¬ (x ≤ 0) → Wg G I XX d mc ms Z pc' L st M k n) : Wg G I XX d mc ms Z pc L (vI x :: st) M k n := by
  obtain ⟨hd, rfl⟩ := hd
  intro hL hs p e s m args below meth c H locs Ls ad n0 ad0 X hW hS hl hn hE
  have hx : R32 x := vok_hd hs
  exact lv_if_le X.1 X.2.1 hd ht (fun z => kt ((o32_le hx z32).mp z) hL (vok_tl hs) p e s m args below meth c H locs Ls ad n0 ad0 X hW hS hl hn hE) (fun z => kf (fun u => z ((o32_le hx z32).mpr u)) hL (vok_tl hs) p e s m args below meth c H locs Ls ad n0 ad0 X hW hS hl hn hE)
theorem wg_ifnonnull {q : Nat} {off : Int} {tgt : Nat} (hd : Dd I.2.1 pc (.ifnonnull off) 3 pc') (ht : (pc : Int) + off = (tgt : Int)) (hq : q ≠ 0) (kk : Wg G I XX d mc ms Z tgt L st M k n) : Wg G I XX d mc ms Z pc L (vR q :: st) M k n := by
  obtain ⟨hd, rfl⟩ := hd
  refine wg_stk (fun hL hs _ _ => vok_tl hs) (fun p e s m args below meth c H locs Ls ad Q X hW hS h hs z => ?_) kk
  simp only [List.map_cons, cv, cr, if_neg hq]
  exact lv_ifnonnull X.1 X.2.1 hd ht z
theorem wg_ifnull {q : Nat} {off : Int} (hd : Dd I.2.1 pc (.ifnull off) 3 pc') (hq : q ≠ 0) (kk : Wg G I XX d mc ms Z pc' L st M k n) : Wg G I XX d mc ms Z pc L (vR q :: st) M k n := by
  obtain ⟨hd, rfl⟩ := hd
  refine wg_stk (fun hL hs _ _ => vok_tl hs) (fun p e s m args below meth c H locs Ls ad Q X hW hS h hs z => ?_) kk
  simp only [List.map_cons, cv, cr, if_neg hq]
  exact lv_ifnull X.1 X.2.1 hd z
theorem wg_tableOut {x dflt lo hi : Int} {offs : Array Int} {len : Nat} {tgt : Nat} (hd : Dd I.2.1 pc (.tableswitch dflt lo hi offs) len pc') (h : x < lo ∨ hi < x) (ht : (pc : Int) + dflt = (tgt : Int)) (kk : Wg G I XX d mc ms Z tgt L st M k n) : Wg G I XX d mc ms Z pc L (vI x :: st) M k n := by
  obtain ⟨hd, -⟩ := hd
  refine wg_stk (fun hL hs _ _ => vok_tl hs) (fun p e s m args below meth c H locs Ls ad Q X hW hS hh hs z => ?_) kk
  exact lv_tableOut X.1 X.2.1 hd (by rw [o32_t (show R32 x from vok_hd hs)]; exact h) ht z
theorem wg_tableIn {x dflt lo hi off : Int} {offs : Array Int} {len : Nat} {tgt : Nat} (hd : Dd I.2.1 pc (.tableswitch dflt lo hi offs) len pc') (h1 : ¬ x < lo) (h2 : ¬ hi < x) (ho : offs[(x - lo).toNat]? = some off) (ht : (pc : Int) + off = (tgt : Int)) (kk : Wg G I XX d mc ms Z tgt L st M k n) : Wg G I XX d mc ms Z pc L (vI x :: st) M k n := by
  obtain ⟨hd, -⟩ := hd
  refine wg_stk (fun hL hs _ _ => vok_tl hs) (fun p e s m args below meth c H locs Ls ad Q X hW hS hh hs z => ?_) kk
  have e1 := o32_t (show R32 x from vok_hd hs)
  exact lv_tableIn X.1 X.2.1 hd (by rw [e1]; exact h1) (by rw [e1]; exact h2) (by rw [e1]; exact ho) ht z
theorem off_none {d0 x : Int} : ∀ {l : List (Int × Int)}, (∀ q ∈ l, ¬ x = q.1) → Op.lookupswitch.offset l d0 x = d0 := by
  intro l
  induction l with
  | nil => intro _; rfl
  | cons a l ih =>
    intro h
    obtain ⟨a, o⟩ := a
    rw [Op.lookupswitch.offset_cons, if_neg (fun z => h (a, o) List.mem_cons_self (by first | exact z | exact z.symm))]
    exact ih fun q hq => h q (List.mem_cons_of_mem _ hq)
theorem wg_lookup {x dflt off : Int} {ps : Array (Int × Int)} {len : Nat} {tgt : Nat} (hd : Dd I.2.1 pc (.lookupswitch dflt ps) len pc') (hp : (ps.toList.zip (ps.toList.drop 1)).all (fun (a, next) => a.1 < next.1) = true) (ho : Op.lookupswitch.offset ps.toList dflt x = off) (ht : (pc : Int) + off = (tgt : Int)) (kk : Wg G I XX d mc ms Z tgt L st M k n) : Wg G I XX d mc ms Z pc L (vI x :: st) M k n := by
  obtain ⟨hd, -⟩ := hd
  refine wg_stk (fun hL hs _ _ => vok_tl hs) (fun p e s m args below meth c H locs Ls ad Q X hW hS hh hs z => ?_) kk
  exact lv_lookup X.1 X.2.1 hd hp (by rw [o32_t (show R32 x from vok_hd hs)]; exact ho) ht z
end WG
