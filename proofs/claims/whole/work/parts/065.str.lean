/-! ===== the one String constant's own methods ===== -/
section WSTR
variable {G : GG} {I : MI} {XX : State → Prop} {d mc ms : Nat} {Z : Nat → (Nat → Nat) → List Frame → Array Value → State → State → Prop} {pc pc' : Nat} {L : List (Option AV)} {st : List AV} {M : MM} {k n : Nat}
theorem cv_far {ad : Nat → Nat} {H : Heap} (hW : Ww G ad M H) {q : Nat} (hq : 700 ≤ q) : cv ad (vR q) = .ref (G.2.2.2.2 q) := by
  show cr ad q = _
  unfold cr
  rw [if_neg (by omega), hW.2.2.2.2.1 q hq]
theorem wg_gsC {ix : Nat} (hd : Dd I.2.1 pc (.getstatic ix) 3 pc') (hl : Cond.fieldLink I.1.cls ix "java/lang/String" "COMPACT_STRINGS" "Z" ∈ WS) (kk : Wg G I XX d mc ms Z pc' L (vI 1 :: st) M k n) : Wg G I XX d mc ms Z pc L st M k n := by
  obtain ⟨hd, rfl⟩ := hd
  exact wg_stk (fun hL hs _ _ => vcI ⟨by decide, by decide⟩ hs) (fun p e s m args below meth c H locs Ls ad Q X hW hS h hs q => va_gets X.1 X.2.1 X.2.2.2.2.2.2.2.2.2.2.1.2.2.2.2.1 hS X.2.2.2.2.2.1 (X.2.2.2.2.2.2.1 _ hl) (fun _ h => h) hd q) kk
theorem wg_gsF {ix : Nat} (hd : Dd I.2.1 pc (.getstatic ix) 3 pc') (hl : Cond.fieldLink I.1.cls ix "jdk/internal/util/Preconditions" "SIOOBE_FORMATTER" "Ljava/util/function/BiFunction;" ∈ WS) (kk : ∀ q, q = 0 ∨ q = 780 → Wg G I XX d mc ms Z pc' L (vR q :: st) M k n) : Wg G I XX d mc ms Z pc L st M k n := by
  obtain ⟨hd, rfl⟩ := hd
  intro hL hs p e s m args below meth c H locs Ls ad n0 ad0 X hW hS hl2 hn hE
  obtain ⟨v, hv, hz⟩ := X.2.2.2.2.2.2.2.2.2.2.1.2.2.2.2.2
  rcases hv with rfl | rfl
  · have h := kk 0 (Or.inl rfl) hL (vcR (Or.inl (Nat.zero_le _)) hs) p e s m args below meth c H locs Ls ad n0 ad0 X hW hS hl2 hn hE
    exact va_gets X.1 X.2.1 hz hS X.2.2.2.2.2.1 (X.2.2.2.2.2.2.1 _ hl) (fun _ h => h) hd h
  · have h := kk 780 (Or.inr rfl) hL (vcR (Or.inr (by decide)) hs) p e s m args below meth c H locs Ls ad n0 ad0 X hW hS hl2 hn hE
    rw [List.map_cons, cv_far hW (by decide)] at h
    exact va_gets X.1 X.2.1 hz hS X.2.2.2.2.2.1 (X.2.2.2.2.2.2.1 _ hl) (fun _ h => h) hd h
theorem wg_sVal {ix : Nat} (hd : Dd I.2.1 pc (.getfield ix) 3 pc') (hl : Cond.fieldLink I.1.cls ix "java/lang/String" "value" "[B" ∈ WS) (kk : Wg G I XX d mc ms Z pc' L (vR 779 :: st) M k n) : Wg G I XX d mc ms Z pc L (vR 777 :: st) M k n := by
  obtain ⟨hd, rfl⟩ := hd
  refine wg_stk (fun hL hs _ _ => vcR (Or.inr (by decide)) (vok_tl hs)) (fun p e s m args below meth c H locs Ls ad Q X hW hS h hs q => ?_) kk
  rw [List.map_cons, cv_far hW (by decide)] at q ⊢
  obtain ⟨cf, kf, fi, f, cell, h1, h2, h3, h4, h5, h6⟩ := (X.2.2.2.2.2.2.2.2.2.2.1.2.1.1 0 (by decide)).2.2.1.kept hS.2.1
  exact W.getf X.1 X.2.1 X.2.2.2.2.2.1 (X.2.2.2.2.2.2.1 _ hl) h1 h2 h3 h4 h5 rfl rfl hd q
theorem wg_sCod {ix : Nat} (hd : Dd I.2.1 pc (.getfield ix) 3 pc') (hl : Cond.fieldLink I.1.cls ix "java/lang/String" "coder" "B" ∈ WS) (kk : Wg G I XX d mc ms Z pc' L (vI 0 :: st) M k n) : Wg G I XX d mc ms Z pc L (vR 777 :: st) M k n := by
  obtain ⟨hd, rfl⟩ := hd
  refine wg_stk (fun hL hs _ _ => vcI z32 (vok_tl hs)) (fun p e s m args below meth c H locs Ls ad Q X hW hS h hs q => ?_) kk
  rw [List.map_cons, cv_far hW (by decide)]
  obtain ⟨cf, kf, fi, f, cell, h1, h2, h3, h4, h5, h6⟩ := (X.2.2.2.2.2.2.2.2.2.2.1.2.1.1 0 (by decide)).2.1.kept hS.2.1
  exact W.getf X.1 X.2.1 X.2.2.2.2.2.1 (X.2.2.2.2.2.2.1 _ hl) h1 h2 h3 h4 h5 rfl rfl hd q
theorem wg_sLen (hd : Dd I.2.1 pc (.arraylength) 1 pc') (kk : Wg G I XX d mc ms Z pc' L (vI 81 :: st) M k n) : Wg G I XX d mc ms Z pc L (vR 779 :: st) M k n := by
  obtain ⟨hd, rfl⟩ := hd
  refine wg_stk (fun hL hs _ _ => vcI ⟨by decide, by decide⟩ (vok_tl hs)) (fun p e s m args below meth c H locs Ls ad Q X hW hS h hs q => ?_) kk
  rw [List.map_cons, cv_far hW (by decide)]
  exact va_tlen X.1 X.2.1 (X.2.2.2.2.2.2.2.2.2.2.1.2.1.1 0 (by decide)).2.2.2 hS (v := Int32.ofInt 81) rfl hd q
theorem wg_sByte {i : Int} (hd : Dd I.2.1 pc (.baload) 1 pc') (h0 : 0 ≤ i) (h8 : i < 81) (kk : Wg G I XX d mc ms Z pc' L (vI (txB.getD i.toNat 0).toInt :: st) M k n) : Wg G I XX d mc ms Z pc L (vI i :: vR 779 :: st) M k n := by
  obtain ⟨hd, rfl⟩ := hd
  refine wg_stk (fun hL hs _ _ => vcI (r32_toInt _) (vok_tl (vok_tl hs))) (fun p e s m args below meth c H locs Ls ad Q X hW hS h hs q => ?_) kk
  rw [List.map_cons, List.map_cons, cv_far hW (by decide)]
  obtain ⟨a1, a2⟩ := o_in (N := 81) (vok_hd hs) h0 h8 (by decide)
  refine va_tb X.1 X.2.1 (X.2.2.2.2.2.2.2.2.2.2.1.2.1.1 0 (by decide)).2.2.2 hS a1 (v := cv ad (vI (txB.getD i.toNat 0).toInt)) ?_ hd q
  rw [a2]
  show Value.int (txB.getD i.toNat 0) = Value.int (Int32.ofInt (txB.getD i.toNat 0).toInt)
  rw [Int32.ofInt_toInt]
theorem wg_i2c {x : Int} (hd : Dd I.2.1 pc (.i2c) 1 pc') (h0 : 0 ≤ x) (h1 : x < 65536) (kk : Wg G I XX d mc ms Z pc' L (vI x :: st) M k n) : Wg G I XX d mc ms Z pc L (vI x :: st) M k n := by
  obtain ⟨hd, rfl⟩ := hd
  refine wg_stk (fun hL hs _ _ => hs) (fun p e s m args below meth c H locs Ls ad Q X hW hS h hs q => ?_) kk
  refine lv_i2c X.1 X.2.1 hd ?_ q
  obtain ⟨j, rfl⟩ : ∃ j : Nat, x = (j : Int) := ⟨x.toNat, by omega⟩
  rw [Int32.ofInt_eq_ofNat]
  have := pk_char (Int32.ofNat j)
  rw [this, show (Int32.ofNat j).toBitVec.toNat = j from pk_tn (by omega), Nat.mod_eq_of_lt (by omega)]
  rfl
theorem wg_callVs {ix np d' mc' ms' : Nat} {I' : MI} {as stk : List AV} {Qc : Option AV → MM → Prop} (hd : Dd I.2.1 pc (.invokevirtual ix) 3 pc') (hl : Cond.methodLink I.1.cls ix I'.1 ∈ WS) (hI : CVi I' np) (hC : I'.1.cls = "java/lang/String") (hs : stk = as.reverse ++ vR 777 :: st) (hn : as.length = np) (hst : st.length ≤ 4) (hd' : d' + 1 ≤ d) (hk : k + mc' ≤ mc ∧ n + ms' ≤ ms)
    (h : Ok G I' d' mc' ms' (vR 777 :: as) M Qc) (kk : ∀ (v : Option AV) (M' : MM), Qc v M' → Wg G I XX d mc ms Z pc' L (v.toList ++ st) M' (k + mc') (n + ms')) : Wg G I XX d mc ms Z pc L stk M k n := by
  obtain ⟨hd, rfl⟩ := hd
  obtain ⟨⟨i1, i2, i3, i4⟩, i5, i6⟩ := hI
  intro hL hs0 p e s m args below meth c H locs Ls ad n0 ad0 X hW hS hlv hn0 hE
  obtain ⟨has, hst0⟩ := rev_ok hs hs0
  have hst1 := vok_tl hst0
  have hM := h (vok_cons (vok_hd hst0) has) ad
  have e1 : (vR 777 :: as).map (cv ad) = Value.ref (G.2.2.2.2 777) :: as.map (cv ad) := by rw [List.map_cons, cv_far hW (by decide)]
  rw [e1] at hM
  have hin : ∀ w ∈ wsV I.1.cls ix I'.1.cls I'.1 (Cond.code I'.1 I'.2.1 I'.2.2.1 I'.2.2.2 :: WS), w ∈ WS := by
    intro w hw
    unfold wsV at hw
    simp only [List.mem_append, List.mem_cons, List.not_mem_nil, or_false] at hw
    rcases hw with (rfl | rfl | rfl | rfl) | rfl | hw
    · exact hl
    · exact i5
    · exact i6
    · exact i1
    · exact i2
    · exact hw
  have hstk : stk.map (cv ad) = (as.map (cv ad)).reverse ++ Value.ref (G.2.2.2.2 777) :: st.map (cv ad) := by
    rw [hs, List.map_append, List.map_reverse, List.map_cons, cv_far hW (by decide)]
  have hrecv : ∃ cellB : Cell, H[G.2.2.2.2 777]? = some cellB ∧ cellB.vm.isStatics = false ∧ s.vm.findClass I'.1.cls = some cellB.cls := by
    obtain ⟨cell, h1, h2, h3, -⟩ := (X.2.2.2.2.2.2.2.2.2.2.1.2.1.1 0 (by decide)).1.kept hS.2.1
    exact ⟨cell, h1, h2, by rw [hC]; exact h3⟩
  refine wg_back (mc' := mc') (ms' := ms') (va_runV (As := as.map (cv ad)) (rest := st.map (cv ad)) (nL := I.2.2.1) ⟨X.1, X.2.1, X.2.2.1, X.2.2.2.2.2.1, X.2.2.2.2.2.2.1⟩ hM (cwV np X.2.2.2.2.2.2.1 (ws_in hin) rfl rfl rfl ⟨rfl, i3⟩ ⟨hd', by show 8 + (I'.2.2.1 + 11) + 40 * d' ≤ 40 * d; omega⟩) ⟨pco_blind, hrecv, fun U hU hw => ⟨rfl, pco_at X hW hS hU hw⟩⟩ rfl (by rw [List.length_map]; exact hn) hlv.1 hstk (lv_room (cat_le hst)) hd hk) hS (fun v M' ad' H1 locs1 hQ hn1 hE1 hok hW1 hS1 => ?_)
  rw [ret_stack hE1 hst1]
  exact kk v M' hQ (fun u hu => vok_mono hn1 (hL u hu)) (vok_app hok (fun u hu => vok_mono hn1 (hst1 u hu))) p e s m args below meth c H1 locs1 Ls ad' n0 ad0 X hW1 hS1 (lv_subset hlv (al_alike hE1 hL)) (Nat.le_trans hn0 hn1) (AdE.tr hn0 hE hE1)
theorem wp_bret {G : GG} {I : MI} {d mc ms : Nat} {pc pc' : Nat} {L : List (Option AV)} {M : MM} {k n : Nat} {Q : Option AV → MM → Prop} (hr : I.2.2.2 = some .byte) (hd : Dd I.2.1 pc (.ireturn) 1 pc') (hk : k ≤ mc ∧ n ≤ ms) (h : Q (some (vI 0)) M) : Wp G I d mc ms pc L [vI 0] M k n Q := by
  obtain ⟨hd, -⟩ := hd
  intro hL hs p e s m args below meth c H locs Ls ad n0 ad0 X hW hS hl hn hE
  refine W.widen (k := mc) (n := ms) hk.1 hk.2 ?_
  exact W.zret X.1 X.2.1 (X.2.2.2.1.trans hr) rfl (fun t ht _ => qco_end (p := p) (m := m) (args := args) (meth := meth) (c := c) hW hS hn hE (v := some (vI 0)) (fun y hy => by cases hy; exact z32) h ht) hS.2.2 hd (hlocks := X.2.2.2.2.1)
end WSTR
