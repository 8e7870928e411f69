section G
variable {w : WP} {p : Program} {l : Launch} {e : Env} {R : Room} {s : State} {m : MethodId} {args : Array Value} {below : List Frame} {meth : Method} {c : Code} {Q : State → Prop} {nL n0 s0 nT sT : Nat} {cc : ByteArray} {o : Nat} {ini : Bool}
theorem up2_same {α : Type} (f : Nat → Nat → α) (a k : Nat) (v : α) : up2 f a k v a k = v := by unfold up2; rw [if_pos ⟨rfl, rfl⟩]
theorem up2_other {α : Type} (f : Nat → Nat → α) (a : Nat) {k j : Nat} (v : α) (h : j ≠ k) : up2 f a k v a j = f a j := by unfold up2; rw [if_neg (fun q => h q.2)]
theorem Tn_eq {ci : Nat} {C : String} {T : u_T} {N : Nat} {ty : Nat → FieldType} (h : ClsOK ci C T N ty) (k : Nat) : Tn ci k = T k := by
  unfold Tn
  rw [List.getD_eq_getElem?_getD, h.1]
  rfl
theorem HR_S {M : Mem} {H : Heap} {locs : List Loc} (hH : HR w M H) (h1 : n0 ≤ mN M) (hold : ∀ q : Nat, q < wB w → s.heap[q]? = (wH w)[q]?) (hsz : s.heap.size = wB w + n0 ∧ (wH w).size = wB w) (hl : ∀ q ∈ locs, wB w ≤ q.base) : va_S (Aw w) s.heap H locs := by
  refine ⟨by rw [hH.1, hsz.1]; omega, fun q _ hq => ?_, hl⟩
  have hq : q < wB w := Nat.not_le.mp hq
  rw [hH.2.1 q hq, hold q hq]
theorem HR_S0 {M : Mem} {H : Heap} {locs : List Loc} (hH : HR w M H) (hsz : (wH w).size = wB w) (hl : ∀ q ∈ locs, wB w ≤ q.base) : va_S (Aw w) (wH w) H locs := by
  refine ⟨by rw [hH.1, hsz]; omega, fun q _ hq => ?_, hl⟩
  exact hH.2.1 q (Nat.not_le.mp hq)
theorem loc1 {locs : List Loc} {b : Addr} {x : Nat} (hl : ∀ q ∈ locs, wB w ≤ q.base) (hb : wB w ≤ b) : ∀ q ∈ locs ++ [⟨b, x⟩], wB w ≤ q.base := by
  intro q hq
  rcases List.mem_append.mp hq with h | h
  · exact hl q h
  · rw [List.mem_singleton.mp h]; exact hb
theorem cellO {M : Mem} {i ci : Nat} (h : mC M i = ci) (hc : ci < 8) : cellE w M i = .inr (ci, flds w M i ci) := by
  unfold cellE
  rw [if_pos (by omega), h]
theorem cellIs {M : Mem} {i t : Nat} (h : mC M i = t) (hc : t = 10 ∨ t = 11 ∨ t = 12) : cellE w M i = .inl (wA w t, mL M i, .inl (mI M i)) := by
  unfold cellE
  rw [if_neg (by omega), if_pos (by rw [h]; exact hc), h]
theorem cellRs {M : Mem} {i t : Nat} (h : mC M i = t) (hc : t = 14 ∨ t = 15 ∨ t = 16) : cellE w M i = .inl (wA w t, mL M i, .inr (.inr (.inr (.inr (fun k => rfO w (mR M i k)))))) := by
  unfold cellE
  rw [if_neg (by omega), if_neg (by omega), h]
set_option maxHeartbeats 4000000 in
theorem st_getfield {n : Nat} {pc : Nat} {lv : LV} {st : List Value} {M : Mem} {K : Nat → LV → List Value → Mem → Option (Option Value × Mem)} {res : Option Value × Mem} (cx : Cx w p R s m args meth c cc o nL n0 s0 nT sT ini) (dg : decode cc pc = .ok (.getfield n, 3))
    (KK : ∀ pc' lv' st' M', K pc' lv' st' M' = some res → (mN M' ≤ nT ∧ mS M' ≤ sT) ∧ Gd w p l e R s m args below meth c nL n0 s0 Q pc' lv' st' M') (h : stH none K o ini pc lv st M (.getfield n) = some res) : Gd w p l e R s m args below meth c nL n0 s0 Q pc lv st M := by
  obtain ⟨hx, hb, hml, hown, hSt, hold, hsz, hRc, hRs, hin⟩ := cx
  unfold stH at h
  intro H locs ls hH h1 h2 hl hls
  dsimp only at h
  split at h
  next ci k nest wi hres =>
    obtain ⟨a, r, rfl, h3⟩ := pR_s h
    clear h
    obtain ⟨ht, h⟩ := if_s h3
    clear h3
    have hf := fR_ok (asc_mem hres)
    rcases hf with ⟨hc20, hnest, hk⟩ | ⟨hc8, hk, hlk⟩
    · dsimp only at hc20 hnest hk
      subst hc20
      obtain ⟨e1, e2, e3⟩ := hH.2.2.2.2.2.2.2.2 a ht
      subst e1
      have hA := HR_S (s := s) hH h1 hold hsz hl
      have hkp : ∀ q : Nat, q < (wH w).size → ¬ Aw w q → s.heap[q]? = (wH w)[q]? := fun q hq _ => hold q (by omega)
      have hstr := hSt.2.2.2.2.1.1 0 (by omega)
      rcases hk with ⟨rfl, hw⟩ | ⟨rfl, hw⟩
      · have h : K (pc + 3) lv (.ref (mR M 1000001 0) :: r) M = some res := (if_n h).2
        rw [e2] at h
        exact vk_getf (v := .ref (wBy w)) hx hb (hstr.2.2.1.kept hkp) hA hown (hSt.1 _ (List.mem_of_getElem? hw) rfl args) (fun _ q => q) dg ((KK _ _ _ _ h).2 H locs ls hH h1 h2 hl hls)
      · have h : K (pc + 3) lv (.int (mI M 1000001 1) :: r) M = some res := h
        rw [e3] at h
        exact vk_getf (v := .int 0) hx hb (hstr.2.1.kept hkp) hA hown (hSt.1 _ (List.mem_of_getElem? hw) rfl args) (fun _ q => q) dg ((KK _ _ _ _ h).2 H locs ls hH h1 h2 hl hls)
    · dsimp only at hc8 hk hlk
      obtain ⟨C, T, N, ty, hcls⟩ := cls_ok hc8
      obtain ⟨hcl, hws, hty, hnm, hN, htk, hfin, hdecl, hC, -⟩ := id hcls
      rw [← hN] at hk
      rw [Tn_eq hcls] at hlk
      obtain ⟨ha, hr, hat⟩ := HR_obj hH ht hc8
      have hK := hSt.2.1
      have go : ∀ v : Value, fV w M a ci k = v → W p l e R s m args below meth c H locs (mN M - n0) (mS M - s0) Q (F0 m (pc + 3) ls (v :: r.map (mv w))) → W p l e R s m args below meth c H locs (mN M - n0) (mS M - s0) Q (F0 m pc ls (.ref (wB w + a) :: r.map (mv w))) := by
        intro v hv hW
        rcases hlk with ⟨-, hw⟩ | ⟨-, hne2, hw⟩
        · exact va_get (C := C) (T := T) (N := N) hx hb (St_ws hSt hws) (fun _ q => q) hown hK (va_p1 hat) 0 rfl hcl k hk (hSt.1 _ (List.mem_of_getElem? hw) rfl args) (fun _ q => q) (v := v) (by rw [flds_get w M a (by omega), hv]) dg hW
        · exact va_getN (C := C) (T := T) (N := N) hx hb (St_ws hSt hws) (fun _ q => q) hown hK (va_p1 hat) 0 rfl hcl k hk (hSt.1 _ (List.mem_of_getElem? hw) rfl args) (fun _ q => q) (v := v) (by rw [flds_get w M a (by omega), hv]) dg hW
      show W p l e R s m args below meth c H locs (mN M - n0) (mS M - s0) Q (F0 m pc ls (.ref (rho w a) :: r.map (mv w)))
      rw [hr]
      split at h
      next hft => exact go _ (by unfold fV; rw [hft]; rfl) ((KK _ _ _ _ h).2 H locs ls hH h1 h2 hl hls)
      next hft => exact go _ (by unfold fV; rw [hft]; rfl) ((KK _ _ _ _ h).2 H locs ls hH h1 h2 hl hls)
      next hft =>
        obtain ⟨hne, h⟩ := if_n h
        exact go (.ref (rho w (mR M a k))) (by unfold fV; rw [hft]; show va_rf (rfO w (mR M a k)) = _; unfold rfO; rw [if_neg hne]; rfl) ((KK _ _ _ _ h).2 H locs ls hH h1 h2 hl hls)
      next => cases h
  next => cases h
set_option maxHeartbeats 4000000 in
theorem st_putfield {n : Nat} {pc : Nat} {lv : LV} {st : List Value} {M : Mem} {K : Nat → LV → List Value → Mem → Option (Option Value × Mem)} {res : Option Value × Mem} (cx : Cx w p R s m args meth c cc o nL n0 s0 nT sT ini) (dg : decode cc pc = .ok (.putfield n, 3))
    (KK : ∀ pc' lv' st' M', K pc' lv' st' M' = some res → (mN M' ≤ nT ∧ mS M' ≤ sT) ∧ Gd w p l e R s m args below meth c nL n0 s0 Q pc' lv' st' M') (h : stH none K o ini pc lv st M (.putfield n) = some res) : Gd w p l e R s m args below meth c nL n0 s0 Q pc lv st M := by
  obtain ⟨hx, hb, hml, hown, hSt, hold, hsz, hRc, hRs, hin⟩ := cx
  unfold stH at h
  intro H locs ls hH h1 h2 hl hls
  dsimp only at h
  split at h
  next ci k nest wi hres =>
    obtain ⟨⟨hc8, hff⟩, h⟩ := if_s h
    have hf := fR_ok (asc_mem hres)
    rcases hf with ⟨hc20, -⟩ | ⟨-, hk, hlk⟩
    · dsimp only at hc20
      omega
    · dsimp only at hk hlk
      obtain ⟨C, T, N, ty, hcls⟩ := cls_ok hc8
      obtain ⟨hcl, hws, hty, hnm, hN, htk, hfin, hdecl, hC, -⟩ := id hcls
      rw [← hN] at hk
      rw [Tn_eq hcls] at hlk
      have hK := hSt.2.1
      have hlink : ((T k).2.2.2 = false ∧ (Cond.fieldLink (nm o) n (T k).1 (T k).2.1 (T k).2.2.1).before args s = true) ∨ ((T k).2.2.2 = false ∧ ∃ host, (Cond.fieldLinkNest (nm o) n (T k).1 (T k).2.1 (T k).2.2.1 host).before args s = true) ∨ ((T k).2.2.2 = true ∧ meth.name = "<init>" ∧ (T k).1 = nm o ∧ (Cond.fieldLink (nm o) n (T k).1 (T k).2.1 (T k).2.2.1).before args s = true) := by
        by_cases hfb : fF ci k = false
        · rcases hlk with ⟨-, hw⟩ | ⟨-, hne2, hw⟩
          · exact Or.inl ⟨by rw [hfin k hk]; exact hfb, hSt.1 _ (List.mem_of_getElem? hw) rfl args⟩
          · exact Or.inr (Or.inl ⟨by rw [hfin k hk]; exact hfb, _, hSt.1 _ (List.mem_of_getElem? hw) rfl args⟩)
        · rcases hff with hff | ⟨hi, ho⟩
          · exact absurd hff hfb
          · rcases hlk with ⟨-, hw⟩ | ⟨-, hne2, hw⟩
            · exact Or.inr (Or.inr ⟨by rw [hfin k hk]; exact Bool.not_eq_false _ |>.mp hfb, hin hi, by rw [hdecl k hk, ho], hSt.1 _ (List.mem_of_getElem? hw) rfl args⟩)
            · exact absurd ho hne2
      have go : ∀ (a : Nat) (v : Value) (M' : Mem) (r : List Value), mC M a = ci → narrow (ty k) v = v → fits (ty k) v = true → fV w M' a ci k = v → (∀ j, j ≠ k → fV w M' a ci j = fV w M a ci j) → mC M' = mC M → (∀ H', va_at (wD w) vwCl (wB w + a, cellE w M' a) H' → H'.size = H.size → (∀ q, q ≠ wB w + a → H'[q]? = H[q]?) → HR w M' H') → mN M' = mN M → mS M' = mS M → K (pc + 3) lv r M' = some res → W p l e R s m args below meth c H locs (mN M - n0) (mS M - s0) Q (F0 m pc ls (v :: .ref (rho w a) :: r.map (mv w))) := by
        intro a v M' r ht hn hfit hfv hfo hMC hHR hN' hS' h
        obtain ⟨ha, hr, hat⟩ := HR_obj hH ht hc8
        rw [hr]
        refine h_put (C := C) (T := T) (N := N) hx hb (St_ws hSt hws) (fun _ q => q) ty hty hnm hown hK hat hcl k hk hlink hn hfit (by rw [flds_len]; omega) dg (fun H1 x e1 e2 e3 => ?_)
        rw [flds_set (by omega) hfv hfo] at e1
        have := (KK _ _ _ _ h).2 H1 (locs ++ [⟨wB w + a, x⟩]) ls (hHR H1 (by rw [cellO (by rw [hMC]; exact ht) hc8]; exact e1) e2 e3) (by omega) (by omega) (loc1 hl (Nat.le_add_right _ _)) hls
        rw [hN', hS'] at this
        exact this
      split at h
      next hft =>
        obtain ⟨a, x, r, rfl, h3⟩ := pIR_s h
        clear h
        obtain ⟨ht, h⟩ := if_s h3
        have hty0 : ty k = .int := by
          rcases htk k hk with ⟨-, q⟩ | ⟨q, -⟩ | ⟨q, -⟩
          · exact q
          · omega
          · omega
        obtain ⟨ha, -⟩ := HR_obj hH ht hc8
        refine go a (.int x) (setI M a k x) r ht (by rw [hty0]; rfl) (by rw [hty0]; rfl) ?_ ?_ rfl (fun H' q1 q2 q3 => HR_setI hH ha q1 q2 q3) rfl rfl h
        · unfold fV
          rw [hft]
          show Value.int (up2 (mI M) a k x a k) = _
          rw [up2_same]
        · intro j hj
          unfold fV
          have : mI (setI M a k x) a j = mI M a j := by show up2 (mI M) a k x a j = _; rw [up2_other _ _ _ hj]
          rw [this]
          rfl
      next hft =>
        obtain ⟨a, x, r, rfl, h3⟩ := pLR_s h
        clear h
        obtain ⟨ht, h⟩ := if_s h3
        have hty0 : ty k = .long := by
          rcases htk k hk with ⟨q, -⟩ | ⟨-, q⟩ | ⟨q, -⟩
          · omega
          · exact q
          · omega
        obtain ⟨ha, -⟩ := HR_obj hH ht hc8
        refine go a (.long x) (setJ M a k x) r ht (by rw [hty0]; rfl) (by rw [hty0]; rfl) ?_ ?_ rfl (fun H' q1 q2 q3 => HR_setJ hH ha q1 q2 q3) rfl rfl h
        · unfold fV
          rw [hft]
          show Value.long (up2 (mJ M) a k x a k) = _
          rw [up2_same]
        · intro j hj
          unfold fV
          have : mJ (setJ M a k x) a j = mJ M a j := by show up2 (mJ M) a k x a j = _; rw [up2_other _ _ _ hj]
          rw [this]
          rfl
      next hft =>
        obtain ⟨a, x, r, rfl, h3⟩ := pRR_s h
        clear h
        obtain ⟨⟨ht, hx9⟩, h⟩ := if_s h3
        have hty0 : isRf (ty k) = true := by
          rcases htk k hk with ⟨q, -⟩ | ⟨q, -⟩ | ⟨-, q⟩
          · omega
          · omega
          · exact q
        obtain ⟨ha, -⟩ := HR_obj hH ht hc8
        have hnar : ∀ b : Nat, narrow (ty k) (.ref b) = .ref b ∧ fits (ty k) (.ref b) = true := by
          intro b
          cases hq : ty k <;> rw [hq] at hty0 <;> first | exact ⟨rfl, rfl⟩ | cases hty0
        refine go a (.ref (rho w x)) (setR M a k x) r ht (hnar _).1 (hnar _).2 ?_ ?_ rfl (fun H' q1 q2 q3 => HR_setR hH ha q1 q2 q3) rfl rfl h
        · unfold fV
          rw [hft]
          show va_rf (rfO w (up2 (mR M) a k x a k)) = _
          rw [up2_same]
          unfold rfO
          rw [if_neg (by omega)]
          rfl
        · intro j hj
          unfold fV
          have : mR (setR M a k x) a j = mR M a j := by show up2 (mR M) a k x a j = _; rw [up2_other _ _ _ hj]
          rw [this]
          rfl
      next => cases h
  next => cases h
end G
