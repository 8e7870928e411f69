theorem rst_sub {m : MT} {pc : Nat} {lv : LV} : ∀ q ∈ rst m pc lv, q ∈ lv := by
  intro q hq
  unfold rst at hq
  split at hq
  · exact hq
  · exact (List.mem_filter.mp hq).1
theorem lenT {i : Instr} (h : ∀ rt st M', stT (none : Option (Option Value × Mem)) (fun v => some (v, M')) rt st i = none) : True := trivial
theorem stT_len {rt : Option FieldType} {st : List Value} {i : Instr} {T : Option Value → Option (Option Value × Mem)} {r : Option Value × Mem} (h : stT none T rt st i = some r) : lenI i = some 1 := by
  unfold stT at h
  split at h <;> first | rfl | cases h
theorem stT_mem {rt : Option FieldType} {st : List Value} {i : Instr} {M : Mem} {v : Option Value} {M' : Mem} (h : stT none (fun v => some (v, M)) rt st i = some (v, M')) : M' = M := by
  have h2 := stT_nat (α := Option (Option Value × Mem)) none (fun _ _ _ _ => none) (fun _ _ _ _ => none) (fun v => some (v, M)) rt st i
  rw [h] at h2
  unfold elS at h2
  split at h2
  · cases h2
  · cases h2
  · cases h2
  · cases h2
    rfl
set_option maxHeartbeats 8000000 in
theorem bok {w : WP} (l : Launch) (hwz : (wH w).size = wB w) : ∀ n, BOK w l n := by
  intro n
  induction n with
  | zero => intro d mi mm pc lv st M v M' hm h; cases h
  | succ n ih =>
    intro d mi mm pc lv st M v M' hm h p e R s m args below meth c Q n0 s0 cx hR1 hR2 hT
    have hgr := run_gr _ _ _ _ _ _ _ _ _ h
    rw [run, hm] at h
    dsimp only at h
    cases hil : asc mm.2.2.2.2.2.2.1 pc with
    | none => rw [hil] at h; cases h
    | some il =>
      rw [hil] at h
      dsimp only at h
      obtain ⟨kd, kl⟩ := mt_k mm (List.mem_of_getElem? hm)
      have hdec := kd _ (asc_mem hil)
      have hlen := kl _ (asc_mem hil)
      dsimp only at hdec
      have dg : ∀ k, lenI il.1 = some k → decode mm.2.2.1 pc = .ok (il.1, k) := by
        intro k hk
        unfold lOK at hlen
        dsimp only at hlen
        rw [hk] at hlen
        have : k = il.2 := by simpa using hlen
        rw [this]
        exact hdec
      have KK : ∀ pc' lv' st' M9, run n d mi pc' (rst mm pc' lv') st' M9 = some (v, M') → (mN M9 ≤ mN M' ∧ mS M9 ≤ mS M') ∧ Gd w p l e R s m args below meth c mm.2.2.2.1 n0 s0 Q pc' lv' st' M9 := by
        intro pc' lv' st' M9 h9
        exact ⟨run_gr _ _ _ _ _ _ _ _ _ h9, Gd_less rst_sub (ih d mi mm pc' _ st' M9 v M' hm h9 p e R s m args below meth c Q n0 s0 cx hR1 hR2 hT)⟩
      have CC : ∀ cm As rest pc', (match d with
            | 0 => none
            | d' + 1 => match run n d' cm 0 (lv_args 0 As) [] M with
              | none => none
              | some (r, M1) => run n (d' + 1) mi pc' (rst mm pc' lv) (r.toList ++ rest) M1) = some (v, M') → ∃ m' d' r M1, d = d' + 1 ∧ mt[cm]? = some m' ∧ mN M ≤ mN M1 ∧ mS M ≤ mS M1 ∧ mN M1 ≤ mN M' ∧ mS M1 ≤ mS M' ∧ (m'.2.1.name ≠ "law" → (As.map fun v => v.category).sum ≤ m'.2.2.2.1 → Met l m'.2.1 [.code m'.2.1 m'.2.2.1 m'.2.2.2.1 m'.2.2.2.2.1] (Rm d' (mN M1 - mN M) (mS M1 - mS M)) (PcM w As M) (QcM w r M1) (mN M1 - mN M) (mS M1 - mS M) (Aw w)) ∧ Gd w p l e R s m args below meth c mm.2.2.2.1 n0 s0 Q pc' lv (r.toList ++ rest) M1 := by
        intro cm As rest pc' hC
        split at hC
        · cases hC
        · next d' =>
          split at hC
          · cases hC
          · next r M1 hr =>
            obtain ⟨k, m', -, hm'⟩ := run_m hr
            have g1 := run_gr _ _ _ _ _ _ _ _ _ hr
            have g2 := run_gr _ _ _ _ _ _ _ _ _ hC
            exact ⟨m', d', r, M1, rfl, hm', g1.1, g1.2, g2.1, g2.2, fun hn hs => met_ok ih hwz hm' hn hr hs, Gd_less rst_sub (ih (d' + 1) mi mm pc' _ _ M1 v M' hm hC p e R s m args below meth c Q n0 s0 cx hR1 hR2 hT)⟩
      unfold stC at h
      split at h
      · exact stA_ok cx dg KK h
      · exact stB_ok cx dg KK h
      · exact stJ_ok cx ⟨il.2, hdec, fun j hj => by have := dg j hj; rw [hdec] at this; cases this; rfl⟩ KK h
      · have hh := h
        unfold stH at hh
        split at hh
        · next n1 hi => rw [hi] at h dg; exact st_getfield cx (dg _ rfl) KK h
        · next n1 hi => rw [hi] at h dg; exact st_putfield cx (dg _ rfl) KK h
        · next n1 hi => exact st_arr cx dg (Or.inr (Or.inr (Or.inr (Or.inr (Or.inr ⟨_, hi⟩))))) KK h
        · next hi => exact st_arr cx dg (Or.inl hi) KK h
        · next hi => exact st_arr cx dg (Or.inr (Or.inl hi)) KK h
        · next hi => exact st_arr cx dg (Or.inr (Or.inr (Or.inl hi))) KK h
        · next hi => exact st_arr cx dg (Or.inr (Or.inr (Or.inr (Or.inl hi)))) KK h
        · next hi => exact st_arr cx dg (Or.inr (Or.inr (Or.inr (Or.inr (Or.inl hi))))) KK h
        · next hi => exact st_arw cx dg (Or.inl hi) KK h
        · next hi => exact st_arw cx dg (Or.inr (Or.inl hi)) KK h
        · next hi => exact st_arw cx dg (Or.inr (Or.inr (Or.inl hi))) KK h
        · next hi => exact st_arw cx dg (Or.inr (Or.inr (Or.inr hi))) KK h
        · next n1 hi => exact st_new cx dg (Or.inl ⟨_, hi⟩) KK h
        · next n1 hi => exact st_new cx dg (Or.inr (Or.inl ⟨_, hi⟩)) KK h
        · next n1 hi => exact st_new cx dg (Or.inr (Or.inr ⟨_, hi⟩)) KK h
        · next n1 n2 hi => rw [hi] at h dg; exact st_mna cx (dg _ rfl) KK h
        · cases hh
      · exact stV_ok cx dg hR1 hR2 KK CC h
      · have hMM := stT_mem h
        subst hMM
        intro H locs ls hH h1 h2 hl hls
        exact hT il.1 pc st ls H locs (dg _ (stT_len h)) h hH hl
