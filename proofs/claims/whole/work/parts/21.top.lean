def R_law : String := "KnotNamesLaw"
def lw_P (b : Addr) (xs : List Int32) (args : Array Value) (s : State) : Prop := args = #[.ref b] ∧ s.IntsAt b xs ∧ xs.length ≤ 320 ∧ (Jvm.Cond.and given_1 narrow_1).before args s = true
def lw_Q (_ : Array Value) (s : State) (o : Outcome) (t : State) : Prop := o = .returned (some (.int 1)) ∧ Framed s o t [] 600000 7302250
def lw_Z (below : List Frame) (a : Array Value) (s : State) : State → Prop := fun t => ∃ o, t.status = .running ∧ Ended t below o ∧ lw_Q a s o t
/-- the law's own end, with 1 on the stack, nothing written that was there before, its room as the claim has it -/
theorem lw_ret {p : Program} {l : Launch} {e : Env} {s : State} {m : MethodId} {below : List Frame} {meth : Method} {c : Code} {b : Nat} (hx : p.tables.exec = Jvm.exec) (hb : c.code = code) (hr : meth.sig.returnType = ret) (hlocks : meth.locks = false) {pc : Nat} {H : Heap} {ls : Array Slot} (hdg : decode code pc = .ok (.ireturn, 1)) : W p l e room_1 s m #[Value.ref b] below meth c H [] 600000 7302250 (lw_Z below #[Value.ref b] s) (F0 m pc ls [.int 1]) := by
  intro T hT X
  obtain ⟨fs, hret, hrun, hended, hW, hframe⟩ := X.leave (v := some (.int 1)) (hlocks := hlocks) (fun h => by rw [hr] at h; cases h)
  have hmeth' : T.vm.method? m = some meth := X.method'
  refine ⟨T.setFrames fs, ?_, .returned (some (.int 1)), hrun, hended, rfl, ⟨_, rfl⟩, hW, hframe⟩
  jvm_step X.here [X.here.top, hx, hb, hdg, hmeth', hr, ret, narrow_b1]
  (try refine ⟨rfl, ?_⟩); (try refine ⟨rfl, ?_⟩)
  first | (intro acts; rw [hret _ acts rfl rfl rfl]) | rw [hret _ _ rfl rfl rfl]
  exact Steps.refl _
/-- what holds at the law's entry: the machine, the code, the tables' words (any of lw_tbl by 'hts w (by decide +kernel)'), the script of L ints xs at the cell b, what the Statement gives of the start (any of its parts by flat_of_before) -/
def lw_At (p : Program) (s : State) (m : MethodId) (meth : Method) (c : Code) (b L : Nat) (xs : Nat → Int32) : Prop :=
  p.tables.exec = Jvm.exec ∧ c.code = code ∧ meth.sig.returnType = ret ∧ c.maxLocals = 4 ∧ s.vm.findClass R_law = some m.cls ∧ (∀ w ∈ lw_tbl, w.before #[Value.ref b] s = true) ∧ va_X b L xs s s.heap ∧ b < s.heap.size ∧ meth.locks = false ∧ (Jvm.Cond.and given_1 narrow_1).before #[Value.ref b] s = true
section Disp
variable {w : WP} {p : Program} {l : Launch} {e : Env} {R : Room} {s : State} {m : MethodId} {args : Array Value} {below : List Frame} {meth : Method} {c : Code} {Q : State → Prop} {n0 s0 nT sT : Nat}
set_option maxHeartbeats 8000000 in
theorem disp_ok {d mi pc : Nat} {mm : MT} {lv : LV} {st : List Value} {M : Mem} {K : Nat → LV → List Value → Mem → Option (Option Value × Mem)} {C : Nat → List Value → List Value → Nat → Option (Option Value × Mem)} {res : Option Value × Mem} {il : Instr × Nat} (hm : mt[mi]? = some mm) (hil : asc mm.2.2.2.2.2.2.1 pc = some il)
    (cx : Cx w p R s m args meth c mm.2.2.1 mm.1 mm.2.2.2.1 n0 s0 nT sT mm.2.2.2.2.2.1) (hR1 : d ≤ R.frames) (hR2 : 64 * d ≤ R.locals)
    (KK : ∀ pc' lv' st' M9, K pc' lv' st' M9 = some res → (mN M9 ≤ nT ∧ mS M9 ≤ sT) ∧ Gd w p l e R s m args below meth c mm.2.2.2.1 n0 s0 Q pc' lv' st' M9)
    (CC : ∀ cm As rest pc', C cm As rest pc' = some res → ∃ m' d' r M1, d = d' + 1 ∧ mt[cm]? = some m' ∧ mN M ≤ mN M1 ∧ mS M ≤ mS M1 ∧ mN M1 ≤ nT ∧ mS M1 ≤ sT ∧ (m'.2.1.name ≠ "law" → (As.map fun v => v.category).sum ≤ m'.2.2.2.1 → Met l m'.2.1 [.code m'.2.1 m'.2.2.1 m'.2.2.2.1 m'.2.2.2.2.1] (Rm d' (mN M1 - mN M) (mS M1 - mS M)) (PcM w As M) (QcM w r M1) (mN M1 - mN M) (mS M1 - mS M) (Aw w)) ∧ Gd w p l e R s m args below meth c mm.2.2.2.1 n0 s0 Q pc' lv (r.toList ++ rest) M1)
    (h : stC none K C (fun _ => none) d mm.1 mm.2.2.2.1 mm.2.2.2.2.1 mm.2.2.2.2.2.1 pc lv st M il.1 = some res) : Gd w p l e R s m args below meth c mm.2.2.2.1 n0 s0 Q pc lv st M := by
  obtain ⟨kd, kl⟩ := mt_k mm (List.mem_of_getElem? hm)
  have hdec := kd _ (asc_mem hil)
  have hlen := kl _ (asc_mem hil)
  dsimp only at hdec
  have dg : ∀ k, lenI il.1 = some k → decode mm.2.2.1 pc = .ok (il.1, k) := by
    intro k hk
    unfold lOK at hlen
    dsimp only at hlen
    rw [hk] at hlen
    have : k = il.2 := by simpa using hlen
    rw [this]
    exact hdec
  unfold stC at h
  split at h
  · exact stA_ok cx dg KK h
  · exact stB_ok cx dg KK h
  · exact stJ_ok cx ⟨il.2, hdec, fun j hj => by have := dg j hj; rw [hdec] at this; cases this; rfl⟩ KK h
  · have hh := h
    unfold stH at hh
    split at hh
    · next n1 hi => rw [hi] at h dg; exact st_getfield cx (dg _ rfl) KK h
    · next n1 hi => rw [hi] at h dg; exact st_putfield cx (dg _ rfl) KK h
    · next n1 hi => exact st_arr cx dg (Or.inr (Or.inr (Or.inr (Or.inr (Or.inr ⟨_, hi⟩))))) KK h
    · next hi => exact st_arr cx dg (Or.inl hi) KK h
    · next hi => exact st_arr cx dg (Or.inr (Or.inl hi)) KK h
    · next hi => exact st_arr cx dg (Or.inr (Or.inr (Or.inl hi))) KK h
    · next hi => exact st_arr cx dg (Or.inr (Or.inr (Or.inr (Or.inl hi)))) KK h
    · next hi => exact st_arr cx dg (Or.inr (Or.inr (Or.inr (Or.inr (Or.inl hi))))) KK h
    · next hi => exact st_arw cx dg (Or.inl hi) KK h
    · next hi => exact st_arw cx dg (Or.inr (Or.inl hi)) KK h
    · next hi => exact st_arw cx dg (Or.inr (Or.inr (Or.inl hi))) KK h
    · next hi => exact st_arw cx dg (Or.inr (Or.inr (Or.inr hi))) KK h
    · next n1 hi => exact st_new cx dg (Or.inl ⟨_, hi⟩) KK h
    · next n1 hi => exact st_new cx dg (Or.inr (Or.inl ⟨_, hi⟩)) KK h
    · next n1 hi => exact st_new cx dg (Or.inr (Or.inr ⟨_, hi⟩)) KK h
    · next n1 n2 hi => rw [hi] at h dg; exact st_mna cx (dg _ rfl) KK h
    · cases hh
  · exact stV_ok cx dg hR1 hR2 KK CC h
  · exfalso
    rw [stT_nat (α := Option (Option Value × Mem)) none (fun _ _ _ _ => none) (fun _ _ _ _ => none) (fun _ => none)] at h
    unfold elS at h
    split at h <;> cases h
noncomputable def pick {α β : Type} (x y : α) (r : β) : Option β := @ite _ (x = y) (Classical.propDecidable _) (some r) none
theorem pick_s {α β : Type} {x y : α} {r z : β} (h : pick x y r = some z) : x = y := by
  unfold pick at h
  split at h
  · assumption
  · cases h
theorem pick_r {α β : Type} (x : α) (r : β) : pick x x r = some r := by
  unfold pick
  split
  · rfl
  · next h => exact absurd rfl h
theorem Gd_step {d mi pc : Nat} {mm : MT} {lv : LV} {st : List Value} {M : Mem} {pc' : Nat} {lv' : LV} {st' : List Value} {M' : Mem} (hm : mt[mi]? = some mm)
    (cx : Cx w p R s m args meth c mm.2.2.1 mm.1 mm.2.2.2.1 n0 s0 nT sT mm.2.2.2.2.2.1) (hR1 : d ≤ R.frames) (hR2 : 64 * d ≤ R.locals) (hs : sp mm d pc lv st M = some (.inl (pc', lv', st', M'))) (hb : mN M' ≤ nT ∧ mS M' ≤ sT) (hG : Gd w p l e R s m args below meth c mm.2.2.2.1 n0 s0 Q pc' lv' st' M') : Gd w p l e R s m args below meth c mm.2.2.2.1 n0 s0 Q pc lv st M := by
  have hs0 := hs
  unfold sp at hs
  split at hs
  · cases hs
  · next il hil =>
    refine disp_ok (K := fun a b c d => pick (a, b, c, d) (pc', lv', st', M') (none, M')) (C := fun _ _ _ _ => none) (res := (none, M')) hm hil cx hR1 hR2 (fun a b c d h => ?_) (fun _ _ _ _ h => by cases h) ?_
    · have hc := pick_s h
      cases hc
      exact ⟨hb, hG⟩
    · rw [stC_nat, hs]
      exact pick_r _ _
theorem Gd_call {n d d' mi pc : Nat} {mm : MT} {lv : LV} {st : List Value} {M : Mem} {cm : Nat} {As rest : List Value} {pc' : Nat} {r : Option Value} {M1 : Mem} (hwz : (wH w).size = wB w) (hm : mt[mi]? = some mm)
    (cx : Cx w p R s m args meth c mm.2.2.1 mm.1 mm.2.2.2.1 n0 s0 nT sT mm.2.2.2.2.2.1) (hR1 : d ≤ R.frames) (hR2 : 64 * d ≤ R.locals) (hs : sp mm d pc lv st M = some (.inr (.inl (cm, As, rest, pc')))) (hd : d = d' + 1) (hr : run n d' cm 0 (lv_args 0 As) [] M = some (r, M1)) (hb : mN M1 ≤ nT ∧ mS M1 ≤ sT) (hG : Gd w p l e R s m args below meth c mm.2.2.2.1 n0 s0 Q pc' lv (r.toList ++ rest) M1) : Gd w p l e R s m args below meth c mm.2.2.2.1 n0 s0 Q pc lv st M := by
  have hs0 := hs
  unfold sp at hs
  split at hs
  · cases hs
  · next il hil =>
    refine disp_ok (K := fun _ _ _ _ => none) (C := fun a b c d => pick (a, b, c, d) (cm, As, rest, pc') (none, M)) (res := (none, M)) hm hil cx hR1 hR2 (fun _ _ _ _ h => by cases h) (fun a b c d9 h => ?_) ?_
    · have hc := pick_s h
      cases hc
      obtain ⟨k, m', -, hm'⟩ := run_m hr
      have g1 := run_gr _ _ _ _ _ _ _ _ _ hr
      exact ⟨m', d', r, M1, hd, hm', g1.1, g1.2, hb.1, hb.2, fun hn hsu => met_ok (bok l hwz n) hwz hm' hn hr hsu, hG⟩
    · rw [stC_nat, hs]
      exact pick_r _ _
end Disp
def I0 (xs : Nat → Int32) : Nat → Nat → Int32 := fun a k => if a = 1000000 then xs k else if a = 1000002 then byU.getD k 0 else 0
def J0 : Nat → Nat → Int64 := fun _ _ => 0
theorem ag_at {P : Nat → Bool} {n i : Nat} (h : (List.range n).all P = true) (hi : i < n) : P i = true := List.all_eq_true.mp h i (List.mem_range.mpr hi)
theorem CL_lo {a : Nat} (h : a < 262) : CL a = clL.getD a 99 := by
  unfold CL
  rw [if_neg (by omega), if_neg (by omega), if_neg (by omega)]
set_option maxRecDepth 100000 in
theorem clL_hi {a : Nat} (h : 262 ≤ a) : clL.getD a 99 = 99 := by
  rw [List.getD_eq_getElem?_getD, List.getElem?_eq_none (by show clL.length ≤ a; exact Nat.le_trans (by decide +kernel) h)]
  rfl
set_option maxRecDepth 100000 in
theorem clL_new : ∀ i, i < 262 → ¬ (clL.getD i 99 = 99 ∨ clL.getD i 99 = 13 ∨ clL.getD i 99 = 17 ∨ clL.getD i 99 = 20) ∧ (clL.getD i 99 < 8 ∨ clL.getD i 99 = 10 ∨ clL.getD i 99 = 11 ∨ clL.getD i 99 = 12 ∨ clL.getD i 99 = 14 ∨ clL.getD i 99 = 15 ∨ clL.getD i 99 = 16) := by decide +kernel
theorem arrV_ext {cA : ClassId} {n : Nat} {f g : Nat → Value} (h : ∀ k, k < n → f k = g k) : arrV cA n f = arrV cA n g := by
  unfold arrV
  congr 2
  funext j
  exact h j.val j.isLt
set_option maxRecDepth 100000 in
set_option maxHeartbeats 4000000 in
theorem HR_mm {w : WP} {H : Heap} (hH : HR w memB H) : HR w (mm (wL w) (I0 (wX w)) J0) H := by
  obtain ⟨h1, h2, h3, h4, h5, h6, h7, h8, h9⟩ := hH
  have hN := memB_N.1
  rw [hN] at h1 h3 h4 h5 h6
  refine ⟨h1, h2, fun i hi => ?_, by show 262 ≤ 900000; omega, fun a ha => ?_, fun a ha => ?_, fun a ha => ?_, fun a ha => ?_, fun a ha => ?_⟩
  · have hi : i < 262 := hi
    have hC := ag_at ag_C hi
    have hF := ag_at ag_F hi
    have hA := ag_at ag_A hi
    unfold agC at hC
    simp only [Bool.and_eq_true, beq_iff_eq] at hC
    have hold := h3 i hi
    have e1 : mC (mm (wL w) (I0 (wX w)) J0) i = mC memB i := by rw [hC.1]; exact CL_lo hi
    have e2 : mL (mm (wL w) (I0 (wX w)) J0) i = mL memB i := by
      rw [hC.2]
      show LN (wL w) i = _
      unfold LN
      rw [if_neg (by omega), if_neg (by omega)]
    have eR : ∀ k, mR (mm (wL w) (I0 (wX w)) J0) i k = (rrL.getD i []).getD k 999999 := fun k => by
      show RR i k = _
      unfold RR
      rw [if_neg (by omega)]
    have eI : ∀ k, mI (mm (wL w) (I0 (wX w)) J0) i k = 0 := fun k => by
      show I0 (wX w) i k = _
      unfold I0
      rw [if_neg (by omega), if_neg (by omega)]
    have eJ : ∀ k, mJ (mm (wL w) (I0 (wX w)) J0) i k = 0 := fun k => rfl
    obtain ⟨n1, n2⟩ := clL_new i hi
    rw [← hC.1] at n2
    unfold agF at hF
    rw [← hC.1] at hF
    unfold agA at hA
    rw [← hC.2] at hA
    rcases n2 with n2 | n2
    · have : cellE w (mm (wL w) (I0 (wX w)) J0) i = cellE w memB i := by
        rw [cellO (e1.trans rfl) n2, cellO rfl n2]
        congr 2
        apply List.ext_getElem?
        intro k
        by_cases hk : k < nf (mC memB i)
        · rw [flds_get _ _ _ hk, flds_get _ _ _ hk]
          have hz := ag_at hF hk
          simp only [Bool.and_eq_true, beq_iff_eq] at hz
          unfold fV
          rw [eI, eJ, eR, hz.1.1, hz.1.2, hz.2]
        · rw [List.getElem?_eq_none (by rw [flds_len]; omega), List.getElem?_eq_none (by rw [flds_len]; omega)]
      rw [this]
      exact hold
    · by_cases hz : mC memB i = 10 ∨ mC memB i = 11 ∨ mC memB i = 12
      · rw [cellIs e1 hz, e2]
        rw [cellIs rfl hz] at hold
        have hold : H[wB w + i]? = some (vp_cell _ _) := hold
        show H[wB w + i]? = some (vp_cell _ _)
        rw [hold, vp_cell_i, vp_cell_i]
        congr 1
        refine arrV_ext fun k hk => ?_
        have hz := ag_at hA hk
        simp only [Bool.and_eq_true, beq_iff_eq] at hz
        rw [eI, hz.1]
      · have hz2 : mC memB i = 14 ∨ mC memB i = 15 ∨ mC memB i = 16 := by omega
        rw [cellRs e1 hz2, e2]
        rw [cellRs rfl hz2] at hold
        have hold : H[wB w + i]? = some (vp_cell _ _) := hold
        show H[wB w + i]? = some (vp_cell _ _)
        rw [hold, vp_cell_q, vp_cell_q]
        congr 1
        refine arrV_ext fun k hk => ?_
        have hz := ag_at hA hk
        simp only [Bool.and_eq_true, beq_iff_eq] at hz
        rw [eR, hz.2]
  · have ha : ¬ old (CL a) := ha
    show a < 262
    unfold CL at ha
    by_cases q1 : a = 1000000
    · rw [if_pos q1] at ha; exact absurd (by unfold old; omega) ha
    · rw [if_neg q1] at ha
      by_cases q2 : a = 1000001
      · rw [if_pos q2] at ha; exact absurd (by unfold old; omega) ha
      · rw [if_neg q2] at ha
        by_cases q3 : a = 1000002
        · rw [if_pos q3] at ha; exact absurd (by unfold old; omega) ha
        · rw [if_neg q3] at ha
          by_cases q4 : a < 262
          · exact q4
          · rw [clL_hi (by omega)] at ha
            exact absurd (by unfold old; omega) ha
  · have ha : a < 262 := ha
    show ¬ old (CL a)
    rw [CL_lo ha]
    exact (clL_new a ha).1
  all_goals
    have ha : CL a = _ := ha
    unfold CL at ha
    by_cases q1 : a = 1000000
    · rw [if_pos q1] at ha
      first
        | (refine ⟨q1, ?_, ?_⟩
           · show LN (wL w) a = _; unfold LN; rw [if_pos q1]
           · funext k; show I0 (wX w) a k = _; unfold I0; rw [if_pos q1])
        | (exfalso; omega)
    · rw [if_neg q1] at ha
      by_cases q2 : a = 1000001
      · rw [if_pos q2] at ha
        first
          | (refine ⟨q2, ?_, ?_⟩
             · show RR a 0 = _; unfold RR; rw [if_pos q2, if_pos rfl]
             · show I0 (wX w) a 1 = _; unfold I0; rw [if_neg q1, if_neg (by omega)])
          | (exfalso; omega)
      · rw [if_neg q2] at ha
        by_cases q3 : a = 1000002
        · rw [if_pos q3] at ha
          first
            | (refine ⟨q3, ?_, ?_⟩
               · show LN (wL w) a = _; unfold LN; rw [if_neg q1, if_pos q3]
               · intro k; show I0 (wX w) a k = _; unfold I0; rw [if_neg q1, if_pos q3])
            | (exfalso; omega)
        · rw [if_neg q3] at ha
          exfalso
          by_cases q4 : a < 262
          · have := (clL_new a q4).1
            omega
          · rw [clL_hi (by omega)] at ha
            omega
