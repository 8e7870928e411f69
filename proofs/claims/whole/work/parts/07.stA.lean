section G
variable {w : WP} {p : Program} {l : Launch} {e : Env} {R : Room} {s : State} {m : MethodId} {args : Array Value} {below : List Frame} {meth : Method} {c : Code} {Q : State → Prop} {nL n0 s0 nT sT : Nat} {cc : ByteArray} {o : Nat} {ini : Bool}
set_option maxHeartbeats 4000000 in
theorem stA_ok {i : Instr} {pc : Nat} {lv : LV} {st : List Value} {M : Mem} {K : Nat → LV → List Value → Mem → Option (Option Value × Mem)} {res : Option Value × Mem} (cx : Cx w p R s m args meth c cc o nL n0 s0 nT sT ini) (dg : ∀ k, lenI i = some k → decode cc pc = .ok (i, k))
    (KK : ∀ pc' lv' st' M', K pc' lv' st' M' = some res → (mN M' ≤ nT ∧ mS M' ≤ sT) ∧ Gd w p l e R s m args below meth c nL n0 s0 Q pc' lv' st' M') (h : stA none K o nL pc lv st M i = some res) : Gd w p l e R s m args below meth c nL n0 s0 Q pc lv st M := by
  obtain ⟨hx, hb, hml, hown, hSt, hold, hsz, hRc, hRs, hin⟩ := cx
  unfold stA at h
  intro H locs ls hH h1 h2 hl hls
  split at h
  · exact lv_iconst hx hb (dg _ rfl) rfl ((KK _ _ _ _ h).2 H locs ls hH h1 h2 hl hls)
  · exact lv_bipush hx hb (dg _ rfl) rfl ((KK _ _ _ _ h).2 H locs ls hH h1 h2 hl hls)
  · exact lv_sipush hx hb (dg _ rfl) rfl ((KK _ _ _ _ h).2 H locs ls hH h1 h2 hl hls)
  · exact lv_lconst hx hb (dg _ rfl) rfl ((KK _ _ _ _ h).2 H locs ls hH h1 h2 hl hls)
  · obtain ⟨x, hv, h⟩ := gI_s h
    exact lv_iload_n hx hb (dg _ rfl) rfl (lvG_has hls hv) ((KK _ _ _ _ h).2 H locs ls hH h1 h2 hl hls)
  · obtain ⟨x, hv, h⟩ := gI_s h
    exact lv_iload hx hb (dg _ rfl) (lvG_has hls hv) ((KK _ _ _ _ h).2 H locs ls hH h1 h2 hl hls)
  · obtain ⟨x, hv, h⟩ := gL_s h
    exact lv_lload_n hx hb (dg _ rfl) rfl (lvG_has hls hv) ((KK _ _ _ _ h).2 H locs ls hH h1 h2 hl hls)
  · obtain ⟨x, hv, h⟩ := gL_s h
    exact lv_lload hx hb (dg _ rfl) (lvG_has hls hv) ((KK _ _ _ _ h).2 H locs ls hH h1 h2 hl hls)
  · obtain ⟨x, hv, h⟩ := gR_s h
    exact lv_aload_n hx hb (dg _ rfl) rfl (lvG_has hls hv) ((KK _ _ _ _ h).2 H locs ls hH h1 h2 hl hls)
  · obtain ⟨x, hv, h⟩ := gR_s h
    exact lv_aload hx hb (dg _ rfl) (lvG_has hls hv) ((KK _ _ _ _ h).2 H locs ls hH h1 h2 hl hls)
  · obtain ⟨hn, h⟩ := if_s h
    obtain ⟨x, r, rfl, h⟩ := pI_s h
    exact lv_istore_n hx hb (dg _ rfl) rfl hls hn rfl (fun ls' hl' => (KK _ _ _ _ h).2 H locs ls' hH h1 h2 hl (lvS1 (v := .int x) rfl hl'))
  · obtain ⟨hn, h⟩ := if_s h
    obtain ⟨x, r, rfl, h⟩ := pI_s h
    exact lv_istore hx hb (dg _ rfl) hls hn rfl (fun ls' hl' => (KK _ _ _ _ h).2 H locs ls' hH h1 h2 hl (lvS1 (v := .int x) rfl hl'))
  · obtain ⟨hn, h⟩ := if_s h
    obtain ⟨x, r, rfl, h⟩ := pL_s h
    exact lv_lstore_n hx hb (dg _ rfl) rfl hls hn rfl (fun ls' hl' => (KK _ _ _ _ h).2 H locs ls' hH h1 h2 hl (lvS2 (v := .long x) rfl hl'))
  · obtain ⟨hn, h⟩ := if_s h
    obtain ⟨x, r, rfl, h⟩ := pL_s h
    exact lv_lstore hx hb (dg _ rfl) hls hn rfl (fun ls' hl' => (KK _ _ _ _ h).2 H locs ls' hH h1 h2 hl (lvS2 (v := .long x) rfl hl'))
  · obtain ⟨hn, h⟩ := if_s h
    obtain ⟨x, r, rfl, h⟩ := pR_s h
    exact lv_astore_n hx hb (dg _ rfl) rfl hls hn rfl (fun ls' hl' => (KK _ _ _ _ h).2 H locs ls' hH h1 h2 hl (lvS1 (v := .ref x) rfl hl'))
  · obtain ⟨hn, h⟩ := if_s h
    obtain ⟨x, r, rfl, h⟩ := pR_s h
    exact lv_astore hx hb (dg _ rfl) hls hn rfl (fun ls' hl' => (KK _ _ _ _ h).2 H locs ls' hH h1 h2 hl (lvS1 (v := .ref x) rfl hl'))
  · obtain ⟨hn, h⟩ := if_s h
    obtain ⟨x, hv, h⟩ := gI_s h
    obtain ⟨k, hk⟩ := lvG_idx (w := w) hv
    exact lv_iinc hx hb (dg _ rfl) hls hk rfl hn rfl (fun ls' hl' => (KK _ _ _ _ h).2 H locs ls' hH h1 h2 hl (lvS1 (v := .int _) rfl hl'))
  · split at h
    · exact lv_dup hx hb (dg _ rfl) rfl ((KK _ _ _ _ h).2 H locs ls hH h1 h2 hl hls)
    · exact lv_dup hx hb (dg _ rfl) rfl ((KK _ _ _ _ h).2 H locs ls hH h1 h2 hl hls)
    · cases h
  · split at h
    · exact lv_dup2_11 hx hb (dg _ rfl) rfl rfl ((KK _ _ _ _ h).2 H locs ls hH h1 h2 hl hls)
    · cases h
  · split at h
    · exact lv_pop hx hb (dg _ rfl) rfl ((KK _ _ _ _ h).2 H locs ls hH h1 h2 hl hls)
    · exact lv_pop hx hb (dg _ rfl) rfl ((KK _ _ _ _ h).2 H locs ls hH h1 h2 hl hls)
    · cases h
  · split at h
    next n v hv =>
      exact lv_ldc hx hb hown (hSt.1 _ (List.mem_of_getElem? (iR_ok _ (asc2_mem hv))) rfl _) (dg _ rfl) ((KK _ _ _ _ h).2 H locs ls hH h1 h2 hl hls)
    next =>
      obtain ⟨⟨ho, hn⟩, h⟩ := if_s h
      subst ho
      subst hn
      have hZ := hSt.2.2.2.1
      exact va_ldcS (own := "KnotNames$Text") (q := wSt w) hx hb hown hZ (dg _ rfl) ((KK _ _ _ _ h).2 H locs ls hH h1 h2 hl hls)
  · split at h
    next n v hv =>
      exact lv_ldcw hx hb hown (hSt.1 _ (List.mem_of_getElem? (iR_ok _ (asc2_mem hv))) rfl _) (dg _ rfl) ((KK _ _ _ _ h).2 H locs ls hH h1 h2 hl hls)
    next => cases h
  · split at h
    next n v hv =>
      exact lv_ldc2 hx hb hown (hSt.1 _ (List.mem_of_getElem? (lR_ok _ (asc2_mem hv))) rfl _) (dg _ rfl) ((KK _ _ _ _ h).2 H locs ls hH h1 h2 hl hls)
    next => cases h
  · cases h
end G
