section WLDCW
variable {G : GG} {I : MI} {XX : State → Prop} {d mc ms : Nat} {Z : Nat → (Nat → Nat) → List Frame → Array Value → State → State → Prop} {pc pc' : Nat} {L : List (Option AV)} {st : List AV} {M : MM} {k n : Nat}
theorem wg_ldc_w {ix : Nat} {y : Int} (hd : Dd I.2.1 pc (.ldc_w ix) 3 pc') (hw : Cond.constant I.1.cls ix (Int32.ofInt y) ∈ WS) (hr : R32 y) (kk : Wg G I XX d mc ms Z pc' L (vI y :: st) M k n) : Wg G I XX d mc ms Z pc L st M k n := by
  obtain ⟨hd, rfl⟩ := hd
  exact wg_stk (fun hL hs _ _ => vcI hr hs) (fun p e s m args below meth c H locs Ls ad Q X hW hS h hs q => lv_ldcw X.1 X.2.1 X.2.2.2.2.2.1 (X.2.2.2.2.2.2.1 _ hw) hd q) kk
end WLDCW
