section G
variable {w : WP} {p : Program} {l : Launch} {e : Env} {R : Room} {s : State} {m : MethodId} {args : Array Value} {below : List Frame} {meth : Method} {c : Code} {Q : State → Prop} {nL n0 s0 nT sT : Nat} {cc : ByteArray} {o : Nat} {ini : Bool}
set_option maxRecDepth 100000 in
theorem gstW : lw_tbl[316]? = some (.fieldLink "java/lang/String" 38 "java/lang/String" "COMPACT_STRINGS" "Z") := by decide +kernel
theorem inb_lt {i : Int32} {n : Nat} (h : inb i n) : i.toNatClampNeg < n := Nat.not_le.mp fun q => h (Or.inr q)
theorem arrI {M : Mem} {H : Heap} {a t : Nat} {ty : FieldType} (hH : HR w M H) (hSt : St w s) (ht : mC M a = t) (hc : (t = 10 ∧ ty = .int) ∨ (t = 11 ∧ ty = .char) ∨ (t = 12 ∧ ty = .boolean)) : ∃ k : Nat, (tysW w)[k]? = some (wA w t, ty) := by
  rcases hc with ⟨rfl, rfl⟩ | ⟨rfl, rfl⟩ | ⟨rfl, rfl⟩
  · exact ⟨0, rfl⟩
  · exact ⟨1, rfl⟩
  · exact ⟨2, rfl⟩
set_option maxHeartbeats 4000000 in
/-- an int put into a row of ints, chars or booleans -/
theorem HR_aput {M : Mem} {H H' : Heap} {a t k : Nat} {v : Int32} (hH : HR w M H) (ht : mC M a = t) (hc : t = 10 ∨ t = 11 ∨ t = 12) (e1 : H'[wB w + a]? = some ((vp_cell (wA w t) (mL M a, .inl (mI M a))).setSlot k (.int v))) (e2 : H'.size = H.size) (e3 : ∀ q, q ≠ wB w + a → H'[q]? = H[q]?) : HR w (setI M a k v) H' := by
  obtain ⟨ha, -, -⟩ := HR_ints hH ht hc
  refine HR_setI hH ha ?_ e2 e3
  rw [cellIs (M := setI M a k v) ht hc]
  show H'[wB w + a]? = some (vp_cell _ _)
  rw [e1, vp_cell_i, vp_cell_i, arrV_store]
  congr 2
  funext q
  show updV _ _ _ _ = Value.int (up2 (mI M) a k v a q)
  by_cases hq : q = k
  · subst hq
    rw [up2_same]
    simp [updV]
  · rw [up2_other _ _ _ hq]
    simp [updV, hq]
set_option maxHeartbeats 4000000 in
theorem st_arr {i : Instr} {pc : Nat} {lv : LV} {st : List Value} {M : Mem} {K : Nat → LV → List Value → Mem → Option (Option Value × Mem)} {res : Option Value × Mem} (cx : Cx w p R s m args meth c cc o nL n0 s0 nT sT ini) (dg : ∀ k, lenI i = some k → decode cc pc = .ok (i, k))
    (hi : i = .arraylength ∨ i = .iaload ∨ i = .caload ∨ i = .baload ∨ i = .aaload ∨ (∃ n, i = .getstatic n))
    (KK : ∀ pc' lv' st' M', K pc' lv' st' M' = some res → (mN M' ≤ nT ∧ mS M' ≤ sT) ∧ Gd w p l e R s m args below meth c nL n0 s0 Q pc' lv' st' M') (h : stH none K o ini pc lv st M i = some res) : Gd w p l e R s m args below meth c nL n0 s0 Q pc lv st M := by
  obtain ⟨hx, hb, hml, hown, hSt, hold, hsz, hRc, hRs, hin⟩ := cx
  intro H locs ls hH h1 h2 hl hls
  have hA := HR_S (s := s) hH h1 hold hsz hl
  have hA0 := HR_S0 hH hsz.2 hl
  have hkp : ∀ q : Nat, q < (wH w).size → ¬ Aw w q → s.heap[q]? = (wH w)[q]? := fun q hq _ => hold q (by omega)
  have hstr := hSt.2.2.2.2.1.1 0 (by omega)
  have hbT := hstr.2.2.2.kept hkp
  have hscr : wSc w < (wH w).size := by
    obtain ⟨scr, q, -⟩ := hSt.2.2.1
    exact (Array.getElem?_eq_some_iff.mp q).1
  have hK := hSt.2.1
  rcases hi with rfl | rfl | rfl | rfl | rfl | ⟨n, rfl⟩
  · obtain ⟨a, r, rfl, h3⟩ := pR_s h
    clear h
    obtain ⟨ht, h⟩ := if_s h3
    have hW := (KK _ _ _ _ h).2 H locs ls hH h1 h2 hl hls
    show W p l e R s m args below meth c H locs (mN M - n0) (mS M - s0) Q (F0 m pc ls (.ref (rho w a) :: r.map (mv w)))
    have g1 : ∀ t : Nat, (t = 10 ∨ t = 11 ∨ t = 12) → mC M a = t → ∀ (j : Nat) (ty : FieldType), (tysW w)[j]? = some (wA w t, ty) → W p l e R s m args below meth c H locs (mN M - n0) (mS M - s0) Q (F0 m pc ls (.ref (rho w a) :: r.map (mv w))) := by
      intro t hc ht j ty hj
      obtain ⟨ha, hr, hat⟩ := HR_ints hH ht hc
      rw [hr]
      exact va_alen (D := wD w) (cl := vwCl) (ws := [(wB w + a, .inl (wA w t, mL M a, .inl (mI M a)))]) hx hb hK (va_p1 hat) 0 j rfl hj rfl (dg _ rfl) hW
    have g2 : ∀ t : Nat, (t = 14 ∨ t = 15 ∨ t = 16) → mC M a = t → ∀ (j : Nat) (ty : FieldType), (tysW w)[j]? = some (wA w t, ty) → W p l e R s m args below meth c H locs (mN M - n0) (mS M - s0) Q (F0 m pc ls (.ref (rho w a) :: r.map (mv w))) := by
      intro t hc ht j ty hj
      obtain ⟨ha, hr, hat⟩ := HR_refs hH ht hc
      rw [hr]
      exact va_alen (D := wD w) (cl := vwCl) (ws := [(wB w + a, .inl (wA w t, mL M a, .inr (.inr (.inr (.inr (fun k => rfO w (mR M a k)))))))]) hx hb hK (va_p1 hat) 0 j rfl hj rfl (dg _ rfl) hW
    rcases ht with ht | ht | ht | ht | ht | ht | ht | ht
    · exact g1 10 (by omega) ht 0 _ rfl
    · exact g1 11 (by omega) ht 1 _ rfl
    · exact g1 12 (by omega) ht 2 _ rfl
    · obtain ⟨e1, e2, e3⟩ := hH.2.2.2.2.2.2.2.1 a ht
      subst e1
      rw [e2] at hW
      exact va_tlen hx hb hbT hA rfl (dg _ rfl) hW
    · exact g2 14 (by omega) ht 3 _ rfl
    · exact g2 15 (by omega) ht 4 _ rfl
    · exact g2 16 (by omega) ht 5 _ rfl
    · obtain ⟨e1, e2, e3⟩ := hH.2.2.2.2.2.2.1 a ht
      subst e1
      rw [e2] at hW
      exact va_slen hx hb hSt.2.2.1 hscr (fun q => by have : wB w ≤ wSc w := q; omega) hA0 (dg _ rfl) hW
  · obtain ⟨a, x, r, rfl, h3⟩ := pIR_s h
    clear h
    obtain ⟨⟨ht, hb1⟩, h⟩ := if_s h3
    have hW := (KK _ _ _ _ h).2 H locs ls hH h1 h2 hl hls
    show W p l e R s m args below meth c H locs (mN M - n0) (mS M - s0) Q (F0 m pc ls (.int x :: .ref (rho w a) :: r.map (mv w)))
    rcases ht with ht | ht
    · obtain ⟨ha, hr, hat⟩ := HR_ints hH ht (by omega)
      rw [hr]
      exact va_iald (D := wD w) (cl := vwCl) (ws := [(wB w + a, .inl (wA w 10, mL M a, .inl (mI M a)))]) hx hb hK (va_p1 hat) 0 0 rfl rfl hb1 (dg _ rfl) hW
    · obtain ⟨e1, e2, e3⟩ := hH.2.2.2.2.2.2.1 a ht
      subst e1
      rw [e2] at hb1
      rw [e3] at hW
      exact va_sld hx hb hSt.2.2.1 hscr (fun q => by have : wB w ≤ wSc w := q; omega) hA0 hb1 (dg _ rfl) hW
  · obtain ⟨a, x, r, rfl, h3⟩ := pIR_s h
    clear h
    obtain ⟨⟨ht, hb1⟩, h⟩ := if_s h3
    have hW := (KK _ _ _ _ h).2 H locs ls hH h1 h2 hl hls
    show W p l e R s m args below meth c H locs (mN M - n0) (mS M - s0) Q (F0 m pc ls (.int x :: .ref (rho w a) :: r.map (mv w)))
    obtain ⟨ha, hr, hat⟩ := HR_ints hH ht (by omega)
    rw [hr]
    exact va_cald (D := wD w) (cl := vwCl) (ws := [(wB w + a, .inl (wA w 11, mL M a, .inl (mI M a)))]) hx hb hK (va_p1 hat) 0 1 rfl rfl hb1 (dg _ rfl) hW
  · obtain ⟨a, x, r, rfl, h3⟩ := pIR_s h
    clear h
    obtain ⟨⟨ht, hb1⟩, h⟩ := if_s h3
    have hW := (KK _ _ _ _ h).2 H locs ls hH h1 h2 hl hls
    show W p l e R s m args below meth c H locs (mN M - n0) (mS M - s0) Q (F0 m pc ls (.int x :: .ref (rho w a) :: r.map (mv w)))
    rcases ht with ht | ht
    · obtain ⟨ha, hr, hat⟩ := HR_ints hH ht (by omega)
      rw [hr]
      exact va_zald (D := wD w) (cl := vwCl) (ws := [(wB w + a, .inl (wA w 12, mL M a, .inl (mI M a)))]) hx hb hK (va_p1 hat) 0 2 rfl rfl hb1 (dg _ rfl) hW
    · obtain ⟨e1, e2, e3⟩ := hH.2.2.2.2.2.2.2.1 a ht
      subst e1
      rw [e2] at hb1
      rw [e3] at hW
      exact va_tb (v := .int (byU.getD x.toNatClampNeg 0)) hx hb hbT hA hb1 rfl (dg _ rfl) hW
  · obtain ⟨a, x, r, rfl, h3⟩ := pIR_s h
    clear h
    obtain ⟨⟨⟨ht, hb1⟩, hne⟩, h⟩ := if_s h3
    have hW := (KK _ _ _ _ h).2 H locs ls hH h1 h2 hl hls
    show W p l e R s m args below meth c H locs (mN M - n0) (mS M - s0) Q (F0 m pc ls (.int x :: .ref (rho w a) :: r.map (mv w)))
    have g2 : ∀ t : Nat, (t = 14 ∨ t = 15 ∨ t = 16) → mC M a = t → ∀ (j : Nat) (ty : FieldType), (tysW w)[j]? = some (wA w t, ty) → ty.isReference = true → W p l e R s m args below meth c H locs (mN M - n0) (mS M - s0) Q (F0 m pc ls (.int x :: .ref (rho w a) :: r.map (mv w))) := by
      intro t hc ht j ty hj hty
      obtain ⟨ha, hr, hat⟩ := HR_refs hH ht hc
      rw [hr]
      have hlt := inb_lt hb1
      refine W.aald (v := va_rf (rfO w (mR M a x.toNatClampNeg))) (ty := ty) hx hb hat ((hK.2 j _ hj).1 (mL M a) (fun k => va_rf (rfO w (mR M a k)))) hty (fun q => by cases q) (by show ¬ (x < 0 ∨ (arrV _ _ _).slots.size ≤ _); rw [arrV_size]; exact hb1) (by show (arrV _ _ _).slots[_]? = _; rw [arrV_read _ _ hlt]) rfl rfl (dg _ rfl) ?_
      have e : va_rf (rfO w (mR M a x.toNatClampNeg)) = .ref (rho w (mR M a x.toNatClampNeg)) := by unfold rfO; rw [if_neg hne]; rfl
      rw [e]
      exact hW
    rcases ht with ht | ht | ht
    · exact g2 14 (by omega) ht 3 _ rfl rfl
    · exact g2 15 (by omega) ht 4 _ rfl rfl
    · exact g2 16 (by omega) ht 5 _ rfl rfl
  · obtain ⟨⟨ho, hn⟩, h⟩ := if_s h
    subst ho
    subst hn
    exact va_gets hx hb (hSt.2.2.2.2.2.1.kept hkp) hA hown (hSt.1 _ (List.mem_of_getElem? gstW) rfl args) (fun _ q => q) (dg _ rfl) ((KK _ _ _ _ h).2 H locs ls hH h1 h2 hl hls)
set_option maxHeartbeats 4000000 in
theorem st_arw {i : Instr} {pc : Nat} {lv : LV} {st : List Value} {M : Mem} {K : Nat → LV → List Value → Mem → Option (Option Value × Mem)} {res : Option Value × Mem} (cx : Cx w p R s m args meth c cc o nL n0 s0 nT sT ini) (dg : ∀ k, lenI i = some k → decode cc pc = .ok (i, k))
    (hi : i = .iastore ∨ i = .castore ∨ i = .bastore ∨ i = .aastore)
    (KK : ∀ pc' lv' st' M', K pc' lv' st' M' = some res → (mN M' ≤ nT ∧ mS M' ≤ sT) ∧ Gd w p l e R s m args below meth c nL n0 s0 Q pc' lv' st' M') (h : stH none K o ini pc lv st M i = some res) : Gd w p l e R s m args below meth c nL n0 s0 Q pc lv st M := by
  obtain ⟨hx, hb, hml, hown, hSt, hold, hsz, hRc, hRs, hin⟩ := cx
  intro H locs ls hH h1 h2 hl hls
  have hK := hSt.2.1
  rcases hi with rfl | rfl | rfl | rfl
  · obtain ⟨a, x, v, r, rfl, h3⟩ := pIIR_s h
    clear h
    obtain ⟨⟨ht, hb1⟩, h⟩ := if_s h3
    show W p l e R s m args below meth c H locs (mN M - n0) (mS M - s0) Q (F0 m pc ls (.int v :: .int x :: .ref (rho w a) :: r.map (mv w)))
    obtain ⟨ha, hr, hat⟩ := HR_ints hH ht (by omega)
    rw [hr]
    refine W.iast hx hb hat ((hK.2 0 _ rfl).1 (mL M a) (fun j => .int (mI M a j))) (fun q => by cases q) (by show ¬ (x < 0 ∨ (arrV _ _ _).slots.size ≤ _); rw [arrV_size]; exact hb1) rfl rfl (dg _ rfl) fun H1 e z oq => ?_
    exact (KK _ _ _ _ h).2 H1 (locs ++ [⟨wB w + a, x.toNatClampNeg⟩]) ls (HR_aput hH ht (by omega) e z oq) h1 h2 (loc1 hl (Nat.le_add_right _ _)) hls
  · obtain ⟨a, x, v, r, rfl, h3⟩ := pIIR_s h
    clear h
    obtain ⟨⟨ht, hb1⟩, h⟩ := if_s h3
    show W p l e R s m args below meth c H locs (mN M - n0) (mS M - s0) Q (F0 m pc ls (.int v :: .int x :: .ref (rho w a) :: r.map (mv w)))
    obtain ⟨ha, hr, hat⟩ := HR_ints hH ht (by omega)
    rw [hr]
    refine W.cast hx hb hat ((hK.2 1 _ rfl).1 (mL M a) (fun j => .int (mI M a j))) (fun q => by cases q) (by show ¬ (x < 0 ∨ (arrV _ _ _).slots.size ≤ _); rw [arrV_size]; exact hb1) rfl rfl (dg _ rfl) fun H1 e z oq => ?_
    exact (KK _ _ _ _ h).2 H1 (locs ++ [⟨wB w + a, x.toNatClampNeg⟩]) ls (HR_aput hH ht (by omega) e z oq) h1 h2 (loc1 hl (Nat.le_add_right _ _)) hls
  · obtain ⟨a, x, v, r, rfl, h3⟩ := pIIR_s h
    clear h
    obtain ⟨⟨ht, hb1⟩, h⟩ := if_s h3
    show W p l e R s m args below meth c H locs (mN M - n0) (mS M - s0) Q (F0 m pc ls (.int v :: .int x :: .ref (rho w a) :: r.map (mv w)))
    obtain ⟨ha, hr, hat⟩ := HR_ints hH ht (by omega)
    rw [hr]
    refine W.zast hx hb hat ((hK.2 2 _ rfl).1 (mL M a) (fun j => .int (mI M a j))) (fun q => by cases q) (by show ¬ (x < 0 ∨ (arrV _ _ _).slots.size ≤ _); rw [arrV_size]; exact hb1) rfl rfl (dg _ rfl) fun H1 e z oq => ?_
    exact (KK _ _ _ _ h).2 H1 (locs ++ [⟨wB w + a, x.toNatClampNeg⟩]) ls (HR_aput hH ht (by omega) e z oq) h1 h2 (loc1 hl (Nat.le_add_right _ _)) hls
  · obtain ⟨a, x, v, r, rfl, h3⟩ := pRIR_s h
    clear h
    obtain ⟨⟨ht, hb1⟩, h⟩ := if_s h3
    show W p l e R s m args below meth c H locs (mN M - n0) (mS M - s0) Q (F0 m pc ls (.ref (rho w v) :: .int x :: .ref (rho w a) :: r.map (mv w)))
    have hlt := inb_lt hb1
    have h0 : ¬ x < 0 := fun q => hb1 (Or.inl q)
    have g : ∀ (t ci j : Nat) (C : String) (T : u_T) (N : Nat), (t = 14 ∨ t = 15) → ci < 8 → mC M a = t → mC M v = ci → vwCl[ci]? = some (C, T, N) → (tysW w)[j]? = some (wA w t, .object C) → W p l e R s m args below meth c H locs (mN M - n0) (mS M - s0) Q (F0 m pc ls (.ref (rho w v) :: .int x :: .ref (rho w a) :: r.map (mv w))) := by
      intro t ci j C T N hc hc8 hta htv hcl hj
      obtain ⟨ha, hr, hat⟩ := HR_refs hH hta (by omega)
      obtain ⟨hv, hrv, hatv⟩ := HR_obj hH htv hc8
      rw [hr, hrv]
      obtain ⟨r', hr', cellV, g1, g2, g3, -⟩ := hatv
      have hcls := (hK.1 ci _ hcl).2
      obtain ⟨kA, comp, k1, k2, k3, -⟩ := (hK.2 j _ hj).2
      have hcomp : comp = (wD w).1 ci := Option.some.inj (k3.symm.trans hcls.1)
      subst hcomp
      obtain ⟨kC, hkC, -⟩ := hcls.2
      refine W.aast hx hb hat (fun q h => by cases h) (fun h => by cases h) k1 k2 rfl hkC ⟨h0, by show _ < (arrV _ _ _).slots.size; rw [arrV_size]; exact hlt⟩ g1 (fun q h => by rw [g3] at h; cases h) (by rw [g2]; exact hkC) (by rw [g2]; exact va_assign hcls) rfl rfl (dg _ rfl) fun H1 e z oq => ?_
      refine (KK _ _ _ _ h).2 H1 (locs ++ [⟨wB w + a, x.toNatClampNeg⟩]) ls (HR_setR hH ha ?_ z oq) h1 h2 (loc1 hl (Nat.le_add_right _ _)) hls
      rw [cellRs (M := setR M a x.toNatClampNeg v) hta (by omega)]
      show H1[wB w + a]? = some (vp_cell _ _)
      rw [e, vp_cell_q, vp_cell_q, arrV_store]
      congr 2
      funext q
      show updV _ _ _ _ = va_rf (rfO w (up2 (mR M) a x.toNatClampNeg v a q))
      by_cases hq : q = x.toNatClampNeg
      · subst hq
        rw [up2_same]
        have hv9 : mN M ≤ 900000 := hH.2.2.2.1
        have : rfO w v = some (wB w + v) := by unfold rfO; rw [if_neg (by omega), hrv]
        rw [this]
        simp [updV, va_rf]
      · rw [up2_other _ _ _ hq]
        simp [updV, hq]
    rcases ht with ⟨h14, h4⟩ | ⟨h15, h0'⟩
    · exact g 14 4 3 _ _ _ (by omega) (by omega) h14 h4 rfl rfl
    · exact g 15 0 4 _ _ _ (by omega) (by omega) h15 h0' rfl rfl
end G
