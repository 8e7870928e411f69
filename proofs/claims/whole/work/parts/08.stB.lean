section G
variable {w : WP} {p : Program} {l : Launch} {e : Env} {R : Room} {s : State} {m : MethodId} {args : Array Value} {below : List Frame} {meth : Method} {c : Code} {Q : State → Prop} {nL n0 s0 nT sT : Nat} {cc : ByteArray} {o : Nat} {ini : Bool}
set_option maxHeartbeats 4000000 in
theorem stB_ok {i : Instr} {pc : Nat} {lv : LV} {st : List Value} {M : Mem} {K : Nat → LV → List Value → Mem → Option (Option Value × Mem)} {res : Option Value × Mem} (cx : Cx w p R s m args meth c cc o nL n0 s0 nT sT ini) (dg : ∀ k, lenI i = some k → decode cc pc = .ok (i, k))
    (KK : ∀ pc' lv' st' M', K pc' lv' st' M' = some res → (mN M' ≤ nT ∧ mS M' ≤ sT) ∧ Gd w p l e R s m args below meth c nL n0 s0 Q pc' lv' st' M') (h : stB none K pc lv st M i = some res) : Gd w p l e R s m args below meth c nL n0 s0 Q pc lv st M := by
  obtain ⟨hx, hb, hml, hown, hSt, hold, hsz, hRc, hRs, hin⟩ := cx
  unfold stB at h
  intro H locs ls hH h1 h2 hl hls
  split at h
  · obtain ⟨x, y, r, rfl, h⟩ := pII_s h
    exact lv_iadd hx hb (dg _ rfl) ((KK _ _ _ _ h).2 H locs ls hH h1 h2 hl hls)
  · obtain ⟨x, y, r, rfl, h⟩ := pII_s h
    exact lv_isub hx hb (dg _ rfl) ((KK _ _ _ _ h).2 H locs ls hH h1 h2 hl hls)
  · obtain ⟨x, y, r, rfl, h⟩ := pII_s h
    exact lv_imul hx hb (dg _ rfl) ((KK _ _ _ _ h).2 H locs ls hH h1 h2 hl hls)
  · obtain ⟨x, y, r, rfl, h⟩ := pII_s h
    exact lv_iand hx hb (dg _ rfl) ((KK _ _ _ _ h).2 H locs ls hH h1 h2 hl hls)
  · obtain ⟨x, y, r, rfl, h⟩ := pII_s h
    exact lv_ior hx hb (dg _ rfl) ((KK _ _ _ _ h).2 H locs ls hH h1 h2 hl hls)
  · obtain ⟨x, y, r, rfl, h⟩ := pII_s h
    exact lv_ixor hx hb (dg _ rfl) ((KK _ _ _ _ h).2 H locs ls hH h1 h2 hl hls)
  · obtain ⟨x, y, r, rfl, h⟩ := pII_s h
    exact lv_ishl hx hb (dg _ rfl) ((KK _ _ _ _ h).2 H locs ls hH h1 h2 hl hls)
  · obtain ⟨x, y, r, rfl, h⟩ := pII_s h
    exact lv_ishr hx hb (dg _ rfl) ((KK _ _ _ _ h).2 H locs ls hH h1 h2 hl hls)
  · obtain ⟨x, y, r, rfl, h⟩ := pII_s h
    exact lv_iushr hx hb (dg _ rfl) rfl ((KK _ _ _ _ h).2 H locs ls hH h1 h2 hl hls)
  · obtain ⟨x, y, r, rfl, h⟩ := pII_s h
    obtain ⟨hne, h⟩ := if_n h
    exact lv_idiv hx hb (dg _ rfl) hne ((KK _ _ _ _ h).2 H locs ls hH h1 h2 hl hls)
  · obtain ⟨x, y, r, rfl, h⟩ := pII_s h
    obtain ⟨hne, h⟩ := if_n h
    exact lv_irem hx hb (dg _ rfl) hne ((KK _ _ _ _ h).2 H locs ls hH h1 h2 hl hls)
  · obtain ⟨x, r, rfl, h⟩ := pI_s h
    exact lv_ineg hx hb (dg _ rfl) ((KK _ _ _ _ h).2 H locs ls hH h1 h2 hl hls)
  · obtain ⟨x, y, r, rfl, h⟩ := pLL_s h
    exact lv_ladd hx hb (dg _ rfl) ((KK _ _ _ _ h).2 H locs ls hH h1 h2 hl hls)
  · obtain ⟨x, y, r, rfl, h⟩ := pLL_s h
    exact lv_lmul hx hb (dg _ rfl) ((KK _ _ _ _ h).2 H locs ls hH h1 h2 hl hls)
  · obtain ⟨x, y, r, rfl, h⟩ := pLL_s h
    obtain ⟨hne, h⟩ := if_n h
    exact lv_ldiv hx hb (dg _ rfl) hne ((KK _ _ _ _ h).2 H locs ls hH h1 h2 hl hls)
  · obtain ⟨x, y, r, rfl, h⟩ := pLL_s h
    obtain ⟨hne, h⟩ := if_n h
    exact lv_lrem hx hb (dg _ rfl) hne ((KK _ _ _ _ h).2 H locs ls hH h1 h2 hl hls)
  · obtain ⟨x, y, r, rfl, h⟩ := pLL_s h
    exact W.lcmp hx hb (dg _ rfl) ((KK _ _ _ _ h).2 H locs ls hH h1 h2 hl hls)
  · obtain ⟨x, r, rfl, h⟩ := pI_s h
    exact lv_i2l hx hb (dg _ rfl) rfl ((KK _ _ _ _ h).2 H locs ls hH h1 h2 hl hls)
  · obtain ⟨x, r, rfl, h⟩ := pL_s h
    exact lv_l2i hx hb (dg _ rfl) rfl ((KK _ _ _ _ h).2 H locs ls hH h1 h2 hl hls)
  · obtain ⟨x, r, rfl, h⟩ := pI_s h
    exact lv_i2b hx hb (dg _ rfl) rfl ((KK _ _ _ _ h).2 H locs ls hH h1 h2 hl hls)
  · obtain ⟨x, r, rfl, h⟩ := pI_s h
    exact lv_i2c hx hb (dg _ rfl) rfl ((KK _ _ _ _ h).2 H locs ls hH h1 h2 hl hls)
  · cases h
theorem if_2 {β : Type} {P : Prop} [Decidable P] {a b : Option β} {z : β} (h : (if P then a else b) = some z) : (P ∧ a = some z) ∨ (¬ P ∧ b = some z) := by
  by_cases hP : P
  · rw [if_pos hP] at h; exact Or.inl ⟨hP, h⟩
  · rw [if_neg hP] at h; exact Or.inr ⟨hP, h⟩
theorem jj_ge {x y : Int32} : ¬ x < y ↔ y ≤ x := Int32.not_lt
theorem swt_s {β : Type} {k : Int → Option β} {dflt : Int} {z : β} : ∀ (offs : List Int) (lo x : Int), swt k dflt offs lo x = some z → ((x < lo ∨ lo + offs.length ≤ x) ∧ k dflt = some z) ∨ (lo ≤ x ∧ ∃ off, offs[(x - lo).toNat]? = some off ∧ k off = some z) := by
  intro offs
  induction offs with
  | nil =>
    intro lo x h
    unfold swt at h
    refine Or.inl ⟨?_, h⟩
    simp
    omega
  | cons a r ih =>
    intro lo x h
    unfold swt at h
    rcases if_2 h with ⟨hx, h⟩ | ⟨hx, h⟩
    · refine Or.inr ⟨by omega, a, ?_, h⟩
      rw [show (x - lo).toNat = 0 by omega]
      rfl
    · rcases ih (lo + 1) x h with ⟨h1, h2⟩ | ⟨h1, off, h2, h3⟩
      · refine Or.inl ⟨?_, h2⟩
        rw [List.length_cons]
        omega
      · refine Or.inr ⟨by omega, off, ?_, h3⟩
        rw [show (x - lo).toNat = (x - (lo + 1)).toNat + 1 by omega]
        exact h2
theorem swl_s {β : Type} {k : Int → Option β} {dflt : Int} {z : β} : ∀ (ps : List (Int × Int)) (x : Int), swl k dflt ps x = some z → k (Op.lookupswitch.offset ps dflt x) = some z := by
  intro ps
  induction ps with
  | nil => intro x h; exact h
  | cons a r ih =>
    intro x h
    obtain ⟨a1, a2⟩ := a
    unfold swl at h
    rcases if_2 h with ⟨hx, h⟩ | ⟨hx, h⟩
    · have : Op.lookupswitch.offset ((a1, a2) :: r) dflt x = a2 := by
        subst hx
        simp [Op.lookupswitch.offset]
      rw [this]; exact h
    · have : Op.lookupswitch.offset ((a1, a2) :: r) dflt x = Op.lookupswitch.offset r dflt x := by
        simp [Op.lookupswitch.offset, Ne.symm hx]
        try (intro hh; exact absurd hh hx)
      rw [this]; exact ih x h
set_option maxHeartbeats 4000000 in
theorem stJ_ok {i : Instr} {pc : Nat} {lv : LV} {st : List Value} {M : Mem} {K : Nat → LV → List Value → Mem → Option (Option Value × Mem)} {res : Option Value × Mem} (cx : Cx w p R s m args meth c cc o nL n0 s0 nT sT ini) (dg : ∃ k, decode cc pc = .ok (i, k) ∧ ∀ j, lenI i = some j → k = j)
    (KK : ∀ pc' lv' st' M', K pc' lv' st' M' = some res → (mN M' ≤ nT ∧ mS M' ≤ sT) ∧ Gd w p l e R s m args below meth c nL n0 s0 Q pc' lv' st' M') (h : stJ none K pc lv st M i = some res) : Gd w p l e R s m args below meth c nL n0 s0 Q pc lv st M := by
  obtain ⟨hx, hb, hml, hown, hSt, hold, hsz, hRc, hRs, hin⟩ := cx
  obtain ⟨len, dg, hlen⟩ := dg
  unfold stJ at h
  intro H locs ls hH h1 h2 hl hls
  split at h
  · have e := hlen _ rfl
    subst e
    obtain ⟨t, ht, h⟩ := jmp_s h
    exact lv_goto hx hb dg ht ((KK _ _ _ _ h).2 H locs ls hH h1 h2 hl hls)
  · have e := hlen _ rfl
    subst e
    obtain ⟨x, y, r, rfl, h3⟩ := pII_s h
    clear h
    obtain ⟨t, ht, h⟩ := jmp_s h3
    clear h3
    split at h
    · rcases if_2 h with ⟨hc, h⟩ | ⟨hc, h⟩
      · exact lv_icmp_eq hx hb dg ht (fun _ => (KK _ _ _ _ h).2 H locs ls hH h1 h2 hl hls) (fun q => absurd hc q)
      · exact lv_icmp_eq hx hb dg ht (fun q => absurd q hc) (fun _ => (KK _ _ _ _ h).2 H locs ls hH h1 h2 hl hls)
    · rcases if_2 h with ⟨hc, h⟩ | ⟨hc, h⟩
      · exact lv_icmp_ne hx hb dg ht (fun q => absurd hc q) (fun _ => (KK _ _ _ _ h).2 H locs ls hH h1 h2 hl hls)
      · exact lv_icmp_ne hx hb dg ht (fun _ => (KK _ _ _ _ h).2 H locs ls hH h1 h2 hl hls) (fun q => absurd q hc)
    · rcases if_2 h with ⟨hc, h⟩ | ⟨hc, h⟩
      · exact lv_icmp_lt hx hb dg ht (fun _ => (KK _ _ _ _ h).2 H locs ls hH h1 h2 hl hls) (fun q => absurd hc q)
      · exact lv_icmp_lt hx hb dg ht (fun q => absurd q hc) (fun _ => (KK _ _ _ _ h).2 H locs ls hH h1 h2 hl hls)
    · rcases if_2 h with ⟨hc, h⟩ | ⟨hc, h⟩
      · exact lv_icmp_ge hx hb dg ht (fun q => absurd hc (Int32.not_lt.mpr q)) (fun _ => (KK _ _ _ _ h).2 H locs ls hH h1 h2 hl hls)
      · exact lv_icmp_ge hx hb dg ht (fun _ => (KK _ _ _ _ h).2 H locs ls hH h1 h2 hl hls) (fun q => absurd (Int32.not_lt.mp hc) q)
    · rcases if_2 h with ⟨hc, h⟩ | ⟨hc, h⟩
      · exact lv_icmp_gt hx hb dg ht (fun _ => (KK _ _ _ _ h).2 H locs ls hH h1 h2 hl hls) (fun q => absurd hc q)
      · exact lv_icmp_gt hx hb dg ht (fun q => absurd q hc) (fun _ => (KK _ _ _ _ h).2 H locs ls hH h1 h2 hl hls)
    · rcases if_2 h with ⟨hc, h⟩ | ⟨hc, h⟩
      · exact lv_icmp_le hx hb dg ht (fun q => absurd hc (Int32.not_lt.mpr q)) (fun _ => (KK _ _ _ _ h).2 H locs ls hH h1 h2 hl hls)
      · exact lv_icmp_le hx hb dg ht (fun _ => (KK _ _ _ _ h).2 H locs ls hH h1 h2 hl hls) (fun q => absurd (Int32.not_lt.mp hc) q)
  · have e := hlen _ rfl
    subst e
    obtain ⟨x, r, rfl, h3⟩ := pI_s h
    clear h
    obtain ⟨t, ht, h⟩ := jmp_s h3
    clear h3
    split at h
    · rcases if_2 h with ⟨hc, h⟩ | ⟨hc, h⟩
      · exact lv_if_eq hx hb dg ht (fun _ => (KK _ _ _ _ h).2 H locs ls hH h1 h2 hl hls) (fun q => absurd hc q)
      · exact lv_if_eq hx hb dg ht (fun q => absurd q hc) (fun _ => (KK _ _ _ _ h).2 H locs ls hH h1 h2 hl hls)
    · rcases if_2 h with ⟨hc, h⟩ | ⟨hc, h⟩
      · exact lv_if_ne hx hb dg ht (fun q => absurd hc q) (fun _ => (KK _ _ _ _ h).2 H locs ls hH h1 h2 hl hls)
      · exact lv_if_ne hx hb dg ht (fun _ => (KK _ _ _ _ h).2 H locs ls hH h1 h2 hl hls) (fun q => absurd q hc)
    · rcases if_2 h with ⟨hc, h⟩ | ⟨hc, h⟩
      · exact lv_if_lt hx hb dg ht (fun _ => (KK _ _ _ _ h).2 H locs ls hH h1 h2 hl hls) (fun q => absurd hc q)
      · exact lv_if_lt hx hb dg ht (fun q => absurd q hc) (fun _ => (KK _ _ _ _ h).2 H locs ls hH h1 h2 hl hls)
    · rcases if_2 h with ⟨hc, h⟩ | ⟨hc, h⟩
      · exact lv_if_ge hx hb dg ht (fun q => absurd hc (Int32.not_lt.mpr q)) (fun _ => (KK _ _ _ _ h).2 H locs ls hH h1 h2 hl hls)
      · exact lv_if_ge hx hb dg ht (fun _ => (KK _ _ _ _ h).2 H locs ls hH h1 h2 hl hls) (fun q => absurd (Int32.not_lt.mp hc) q)
    · rcases if_2 h with ⟨hc, h⟩ | ⟨hc, h⟩
      · exact lv_if_gt hx hb dg ht (fun _ => (KK _ _ _ _ h).2 H locs ls hH h1 h2 hl hls) (fun q => absurd hc q)
      · exact lv_if_gt hx hb dg ht (fun q => absurd q hc) (fun _ => (KK _ _ _ _ h).2 H locs ls hH h1 h2 hl hls)
    · rcases if_2 h with ⟨hc, h⟩ | ⟨hc, h⟩
      · exact lv_if_le hx hb dg ht (fun q => absurd hc (Int32.not_lt.mpr q)) (fun _ => (KK _ _ _ _ h).2 H locs ls hH h1 h2 hl hls)
      · exact lv_if_le hx hb dg ht (fun _ => (KK _ _ _ _ h).2 H locs ls hH h1 h2 hl hls) (fun q => absurd (Int32.not_lt.mp hc) q)
  · obtain ⟨hhi, h⟩ := if_s h
    obtain ⟨x, r, rfl, h3⟩ := pI_s h
    clear h
    rcases swt_s _ _ _ h3 with ⟨hr, h⟩ | ⟨hlo, off, ho, h⟩
    · obtain ⟨t, ht, h⟩ := jmp_s h
      refine lv_tableOut hx hb dg ?_ ht ((KK _ _ _ _ h).2 H locs ls hH h1 h2 hl hls)
      rw [Array.length_toList] at hr
      omega
    · obtain ⟨t, ht, h⟩ := jmp_s h
      have hlt := (List.getElem?_eq_some_iff.mp ho).1
      rw [Array.length_toList] at hlt
      refine lv_tableIn hx hb dg (by omega) (by omega) ?_ ht ((KK _ _ _ _ h).2 H locs ls hH h1 h2 hl hls)
      rw [← Array.getElem?_toList]
      exact ho
  · obtain ⟨hp, h⟩ := if_s h
    obtain ⟨x, r, rfl, h3⟩ := pI_s h
    clear h
    have h := swl_s _ _ h3
    obtain ⟨t, ht, h⟩ := jmp_s h
    exact lv_lookup hx hb dg hp rfl ht ((KK _ _ _ _ h).2 H locs ls hH h1 h2 hl hls)
  · cases h
end G
