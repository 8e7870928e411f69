def Rm (d mc ms : Nat) : Room := { frames := d, cells := mc, slots := ms, locals := 64 * d }
def QcM (w : WP) (v : Option Value) (M' : Mem) : Array Value → State → Outcome → State → Prop := fun _ _ o t => o = .returned (v.map (mv w)) ∧ HR w M' t.heap
def PcM (w : WP) (As : List Value) (M : Mem) : Array Value → State → Prop := fun a U => a = (As.map (mv w)).toArray ∧ HR w M U.heap ∧ St w U
theorem popN_s : ∀ (n : Nat) (acc st As rest : List Value), popN n acc st = some (As, rest) → ∃ xs, xs.length = n ∧ st = xs ++ rest ∧ As = xs.reverse ++ acc := by
  intro n
  induction n with
  | zero =>
    intro acc st As rest h
    unfold popN at h
    cases h
    exact ⟨[], rfl, rfl, rfl⟩
  | succ n ih =>
    intro acc st As rest h
    cases st with
    | nil => unfold popN at h; cases h
    | cons v r =>
      unfold popN at h
      obtain ⟨xs, h1, h2, h3⟩ := ih _ _ _ _ h
      exact ⟨v :: xs, by rw [List.length_cons, h1], by rw [h2]; rfl, by rw [h3]; simp⟩
theorem mv_sum (w : WP) (l : List Value) : ((l.map (mv w)).map fun v => v.category).sum = (l.map fun v => v.category).sum := by
  rw [List.map_map]
  congr 1
  apply List.map_congr_left
  intro v _
  exact mv_cat w v
section G
variable {w : WP} {p : Program} {l : Launch} {e : Env} {R : Room} {s : State} {m : MethodId} {args : Array Value} {below : List Frame} {meth : Method} {c : Code} {Q : State → Prop} {nL n0 s0 nT sT : Nat} {cc : ByteArray} {o : Nat} {ini : Bool}
theorem Gd_less {pc : Nat} {lv lv' : LV} {st : List Value} {M : Mem} (hs : ∀ q ∈ lv', q ∈ lv) (h : Gd w p l e R s m args below meth c nL n0 s0 Q pc lv' st M) : Gd w p l e R s m args below meth c nL n0 s0 Q pc lv st M := by
  intro H locs ls hH h1 h2 hl hls
  refine h H locs ls hH h1 h2 hl (lv_less hls fun q hq => ?_)
  obtain ⟨x, hx, rfl⟩ := List.mem_map.mp hq
  exact List.mem_map.mpr ⟨x, hs x hx, rfl⟩
theorem PcM_blind {As : List Value} {M : Mem} : FrameBlind (PcM w As M) := by
  intro a U g mk h
  obtain ⟨h1, h2, h3⟩ := h
  exact ⟨h1, h2, St_same (s := U) (U := U.calling g mk a) rfl h3⟩
/-- behind a call -/
theorem Gd_back {pc : Nat} {lv : LV} {rest : List Value} {M M1 : Mem} {r : Option Value} {H : Heap} {locs : List Loc} {ls : Array Slot} {st0 : List Value} {aa : Array Value} (h1 : n0 ≤ mN M) (h2 : s0 ≤ mS M) (g1 : mN M ≤ mN M1) (g2 : mS M ≤ mS M1) (hl : ∀ q ∈ locs, wB w ≤ q.base) (hls : lv_has ls nL (mvl w lv))
    (hG : Gd w p l e R s m args below meth c nL n0 s0 Q (pc + 3) lv (r.toList ++ rest) M1)
    (hr : va_Run p l e R s m args below meth c H locs (mN M - n0) (mS M - s0) (mN M1 - mN M) (mS M1 - mS M) (F0 m pc ls st0) (rest.map (mv w)) (QcM w r M1 aa) (Aw w)) : W p l e R s m args below meth c H locs (mN M - n0) (mS M - s0) Q (F0 m pc ls st0) := by
  intro T hT X
  obtain ⟨v, st₀, t, T', L, e0, X', hL, e1, e2, ⟨hv, hHR⟩, st⟩ := hr T hT X
  have hv : v = r.map (mv w) := by cases hv; rfl
  subst hv
  have hW := hG T'.heap (locs ++ L) ls (by rw [e1]; exact hHR) (by omega) (by omega) (fun q hq => by
    rcases List.mem_append.mp hq with h | h
    · exact hl q h
    · exact hL q h) hls
  have hW := W.cs (cells := mN M - n0 + (mN M1 - mN M)) (slots := mS M - s0 + (mS M1 - mS M)) (by omega) (by omega) hW
  obtain ⟨t2, a1, b1⟩ := hW T' rfl X'
  refine ⟨t2, st t2 ?_, b1⟩
  have : (r.map (mv w)).toList ++ rest.map (mv w) = (r.toList ++ rest).map (mv w) := by
    cases r <;> rfl
  show Steps p.tables e below (T'.setTop (F0 m (pc + 3) ls ((r.map (mv w)).toList ++ rest.map (mv w)))) t2
  rw [this]
  exact a1
theorem recvO {M : Mem} {H : Heap} {a o2 : Nat} (hH : HR w M H) (hSt : St w s) (hold : ∀ q : Nat, q < wB w → s.heap[q]? = (wH w)[q]?) (hsz : (wH w).size = wB w) (ht : mC M a = tagOf o2) (ho : o2 < 8 ∨ o2 = 11) : ∃ cell : Cell, H[rho w a]? = some cell ∧ cell.vm.isStatics = false ∧ s.vm.findClass (nm o2) = some cell.cls := by
  rcases ho with ho | ho
  · have ht : mC M a = o2 := by rw [ht]; unfold tagOf; rw [if_neg (by omega)]
    obtain ⟨ha, hr, hat⟩ := HR_obj hH ht ho
    obtain ⟨C, T, N, ty, hcls⟩ := cls_ok ho
    obtain ⟨cell, q1, q2, q3⟩ := va_recv hSt.2.1 (va_p1 hat) hcls.1 (q0 := 0) rfl
    rw [hr]
    refine ⟨cell, q1, q2, ?_⟩
    rw [hcls.2.2.2.2.2.2.2.2.1] at q3
    exact q3
  · subst ho
    have ht : mC M a = 20 := ht
    obtain ⟨e1, -⟩ := hH.2.2.2.2.2.2.2.2 a ht
    subst e1
    have hA0 := HR_S0 (locs := []) hH hsz (fun q h => by cases h)
    obtain ⟨cell, q1, q2, q3, -⟩ := (hSt.2.2.2.2.1.1 0 (by omega)).1.kept hA0.2.1
    exact ⟨cell, q1, q2, q3⟩
set_option maxHeartbeats 4000000 in
theorem stV_ok {i : Instr} {d pc : Nat} {lv : LV} {st : List Value} {M : Mem} {K : Nat → LV → List Value → Mem → Option (Option Value × Mem)} {C : Nat → List Value → List Value → Nat → Option (Option Value × Mem)} {res : Option Value × Mem} (cx : Cx w p R s m args meth c cc o nL n0 s0 nT sT ini) (dg : ∀ k, lenI i = some k → decode cc pc = .ok (i, k)) (hR1 : d ≤ R.frames) (hR2 : 64 * d ≤ R.locals)
    (KK : ∀ pc' lv' st' M', K pc' lv' st' M' = some res → (mN M' ≤ nT ∧ mS M' ≤ sT) ∧ Gd w p l e R s m args below meth c nL n0 s0 Q pc' lv' st' M')
    (CC : ∀ cm As rest pc', C cm As rest pc' = some res → ∃ m' d' r M1, d = d' + 1 ∧ mt[cm]? = some m' ∧ mN M ≤ mN M1 ∧ mS M ≤ mS M1 ∧ mN M1 ≤ nT ∧ mS M1 ≤ sT ∧ (m'.2.1.name ≠ "law" → (As.map fun v => v.category).sum ≤ m'.2.2.2.1 → Met l m'.2.1 [.code m'.2.1 m'.2.2.1 m'.2.2.2.1 m'.2.2.2.2.1] (Rm d' (mN M1 - mN M) (mS M1 - mS M)) (PcM w As M) (QcM w r M1) (mN M1 - mN M) (mS M1 - mS M) (Aw w)) ∧ Gd w p l e R s m args below meth c nL n0 s0 Q pc' lv (r.toList ++ rest) M1)
    (h : stV none K C d o pc lv st M i = some res) : Gd w p l e R s m args below meth c nL n0 s0 Q pc lv st M := by
  obtain ⟨hx, hb, hml, hown, hSt, hold, hsz, hRc, hRs, hin⟩ := cx
  unfold stV at h
  intro H locs ls hH h1 h2 hl hls
  have getm : ∀ {cm : Nat} {m' : MT}, mt[cm]? = some m' → mt.getD cm m_LAW_law = m' := fun hm => by rw [List.getD_eq_getElem?_getD, hm]; rfl
  have facts : ∀ {cm : Nat} {m' : MT}, mt[cm]? = some m' → m'.2.1.name ≠ "law" → ∃ q, mOK m' q := fun {cm m'} hm hn => by
    rcases mOK_all m' (List.mem_of_getElem? hm) with rfl | h
    · exact absurd rfl hn
    · exact h
  have mkC : ∀ {cm : Nat} {m' : MT} {d' na : Nat} {mc ms : Nat} {q : Nat × Nat × Nat × Nat × Bool}, d = d' + 1 → mOK m' q → (parseMethodDescriptor m'.2.1.desc).map (fun d => d.parameters.length) = some na → (Rm d' mc ms).cells = mc ∧ (Rm d' mc ms).slots = ms ∧ (Rm d' mc ms).frames + 1 ≤ R.frames ∧ 8 + (m'.2.2.2.1 + 11) + (Rm d' mc ms).locals ≤ R.locals ∧ (∀ x ∈ [Cond.code m'.2.1 m'.2.2.1 m'.2.2.2.1 m'.2.2.2.2.1], ∀ (a' : Array Value) (U : State), s.WarmedH U.vm → x.before a' U = true) ∧ Cond.code m'.2.1 m'.2.2.1 m'.2.2.2.1 m'.2.2.2.2.1 ∈ [Cond.code m'.2.1 m'.2.2.1 m'.2.2.2.1 m'.2.2.2.2.1] ∧
      (Cond.code m'.2.1 m'.2.2.1 m'.2.2.2.1 m'.2.2.2.2.1).before args s = true ∧ (Cond.initialized m'.2.1.cls).before args s = true ∧ (m'.2.1.cls ≠ "java/lang/invoke/MethodHandle" ∧ m'.2.1.cls ≠ "java/lang/invoke/VarHandle") ∧ (∀ sig, parseMethodDescriptor m'.2.1.desc = some sig → na = sig.parameters.length) := by
    intro cm m' d' na mc ms q hd hmo hpar
    obtain ⟨mo1, mo2, ⟨mo3, mo4, mo5, mo6⟩, mo7, mo8⟩ := hmo
    refine ⟨rfl, rfl, by show d' + 1 ≤ _; omega, by show 8 + (m'.2.2.2.1 + 11) + 64 * d' ≤ _; omega, fun x hx a' U hW => ?_, List.mem_singleton.mpr rfl, hSt.1 _ (List.mem_of_getElem? mo1) rfl args, hSt.1 _ (List.mem_of_getElem? mo2) rfl args, mo6, fun sig hs => ?_⟩
    · rw [List.mem_singleton.mp hx]
      exact (St_warm hW hSt).1 _ (List.mem_of_getElem? mo1) rfl a'
    · rw [hs] at hpar
      exact (Option.some.inj hpar).symm
  have hPc : ∀ {As : List Value} (U : State), U.heap = H → s.WarmedH U.vm → PcM w As M (As.map (mv w)).toArray U := fun U hU hW => ⟨rfl, by rw [hU]; exact hH, St_warm hW hSt⟩
  have room : ∀ {M1 : Mem}, mN M ≤ mN M1 → mS M ≤ mS M1 → mN M1 ≤ nT → mS M1 ≤ sT → mN M - n0 + (mN M1 - mN M) ≤ R.cells ∧ mS M - s0 + (mS M1 - mS M) ≤ R.slots := fun a1 a2 a3 a4 => ⟨by omega, by omega⟩
  have lr : ∀ {rest : List Value} {st0 : List Value}, (rest.map fun v => v.category).sum ≤ 8 → 2 * (F0 m pc ls st0).monitorRoom + ((rest.map (mv w)).map fun v => v.category).sum ≤ 8 := fun {rest st0} hh => lv_room (by rw [mv_sum]; exact hh)
  split at h
  · split at h
    next cm na nest wi hres =>
      split at h
      next a As rest hpop =>
        obtain ⟨⟨hsum, hasum⟩, h⟩ := if_s h
        obtain ⟨htag, h⟩ := if_s h
        obtain ⟨m', d', r, M1, hd, hm, g1, g2, g3, g4, hMet, hG⟩ := CC _ _ _ _ h
        have hc := cR_ok (asc_mem hres)
        rw [getm hm] at htag hasum
        unfold cOK at hc
        dsimp only at hc
        rcases hc with ⟨q, -⟩ | ⟨q, -⟩ | ⟨q, -⟩ | ⟨q, -⟩ | ⟨q, -⟩ | ⟨-, ⟨-, hlaw⟩, hpar, hini, ⟨hs1, hs2⟩, hlk⟩
        · omega
        · omega
        · omega
        · omega
        · omega
        · rw [getm hm] at hlaw hpar hini hlk hs1 hs2
          obtain ⟨q, hmo⟩ := facts hm hlaw
          have hnn : m'.2.1.name ≠ "<init>" := fun z => by have := hini.mpr z; omega
          obtain ⟨mo1, mo2, ⟨mo3, mo4, mo5, mo6⟩, mo7, mo8⟩ := id hmo
          obtain ⟨xs, x1, x2, x3⟩ := popN_s _ _ _ _ _ hpop
          rw [List.append_nil] at x3
          have hst : st = As.reverse ++ .ref a :: rest := by
            have : xs = (Value.ref a :: As).reverse := by rw [x3, List.reverse_reverse]
            rw [x2, this, List.reverse_cons, List.append_assoc]
            rfl
          have hlen : (As.map (mv w)).length = na := by
            have : (Value.ref a :: As).length = na + 1 := by rw [x3, List.length_reverse]; exact x1
            rw [List.length_cons] at this
            rw [List.length_map]
            omega
          have hsw : lw_tbl[q.2.2.1]? = some (.instanceMethod m'.2.1) ∧ lw_tbl[q.2.2.2.1]? = some (.selects m'.2.1.cls m'.2.1 m'.2.1) := by
            rcases mo8 with ⟨z, -⟩ | ⟨-, z1, z2⟩
            · have := hs1.mpr z; omega
            · rcases z2 with z2 | z2
              · exact absurd z2 hnn
              · exact ⟨z1, z2⟩
          have hMet := hMet hlaw hasum
          have hst2 : st.map (mv w) = (As.map (mv w)).reverse ++ .ref (rho w a) :: rest.map (mv w) := by rw [hst, List.map_append, ← List.map_reverse]; rfl
          have hpre : PreV s H (nm m'.1) (rho w a) (PcM w (.ref a :: As) M) (As.map (mv w)) := ⟨PcM_blind, recvO hH hSt hold hsz.2 htag (hs2.1 rfl), fun U hU hW => hPc (As := .ref a :: As) U hU hW⟩
          rcases hlk with ⟨-, hw⟩ | ⟨-, hw⟩
          · obtain ⟨c1, c2, c3, c4, c5, c6, c7, c8, c9, c10⟩ := mkC (cm := cm) (mc := mN M1 - mN M) (ms := mS M1 - mS M) hd hmo hpar
            exact Gd_back h1 h2 g1 g2 hl hls hG (va_runV (Ts := []) (As := As.map (mv w)) (rest := rest.map (mv w)) (C := nm m'.1) ⟨hx, hb, hml, hown, fun _ hh => by cases hh⟩ hMet ⟨⟨c1, c2, c3, c4, c5, c6, c7, c8, c9, c10, hSt.1 _ (List.mem_of_getElem? hw) rfl args⟩, hSt.1 _ (List.mem_of_getElem? hsw.1) rfl args, by rw [← mo3]; exact hSt.1 _ (List.mem_of_getElem? hsw.2) rfl args⟩ hpre rfl hlen hls.1 hst2 (lr hsum) (dg _ rfl) (room g1 g2 g3 g4))
          · obtain ⟨c1, c2, c3, c4, c5, c6, c7, c8, c9, c10⟩ := mkC (cm := cm) (mc := mN M1 - mN M) (ms := mS M1 - mS M) hd hmo hpar
            exact Gd_back h1 h2 g1 g2 hl hls hG (va_runVN (Ts := []) (As := As.map (mv w)) (rest := rest.map (mv w)) (C := nm m'.1) ⟨hx, hb, hml, hown, fun _ hh => by cases hh⟩ hMet ⟨⟨⟨c1, c2, c3, c4, c5, c6⟩, c7, c8, c9, c10, hSt.1 _ (List.mem_of_getElem? hw) rfl args⟩, hSt.1 _ (List.mem_of_getElem? hsw.1) rfl args, by rw [← mo3]; exact hSt.1 _ (List.mem_of_getElem? hsw.2) rfl args⟩ hpre rfl hlen hls.1 hst2 (lr hsum) (dg _ rfl) (room g1 g2 g3 g4))
      next => cases h
    next => cases h
  · have mathOK : ∀ {k : Nat} {y : MethodName} {q : Nat}, lw_tbl[q]? = some (.static y) → (Cond.static y).before args s = true := fun hq => hSt.1 _ (List.mem_of_getElem? hq) rfl args
    split at h
    next cm na nest wi hres =>
      split at h
      next As rest hpop =>
        obtain ⟨⟨hsum, hasum⟩, h⟩ := if_s h
        obtain ⟨m', d', r, M1, hd, hm, g1, g2, g3, g4, hMet, hG⟩ := CC _ _ _ _ h
        have hc := cR_ok (asc_mem hres)
        rw [getm hm] at hasum
        unfold cOK at hc
        dsimp only at hc
        rcases hc with ⟨q, -⟩ | ⟨q, -⟩ | ⟨q, -⟩ | ⟨q, -⟩ | ⟨q, -⟩ | ⟨-, ⟨-, hlaw⟩, hpar, hini, ⟨hs1, hs2⟩, hlk⟩
        · omega
        · omega
        · omega
        · omega
        · omega
        · rw [getm hm] at hlaw hpar hini hlk hs1 hs2
          obtain ⟨q, hmo⟩ := facts hm hlaw
          obtain ⟨mo1, mo2, ⟨mo3, mo4, mo5, mo6⟩, mo7, mo8⟩ := id hmo
          obtain ⟨xs, x1, x2, x3⟩ := popN_s _ _ _ _ _ hpop
          rw [List.append_nil] at x3
          have hst : st = As.reverse ++ rest := by rw [x2, x3, List.reverse_reverse]
          have hlen : (As.map (mv w)).length = na := by rw [List.length_map, x3, List.length_reverse]; exact x1
          have hsw : lw_tbl[q.2.2.1]? = some (.static m'.2.1) := by
            rcases mo8 with ⟨-, z⟩ | ⟨z, -⟩
            · exact z
            · have := hs1.mp rfl
              rw [z] at this
              cases this
          have hMet := hMet hlaw hasum
          have hst2 : st.map (mv w) = (As.map (mv w)).reverse ++ rest.map (mv w) := by rw [hst, List.map_append, ← List.map_reverse]
          have hpre : PreS s H (PcM w As M) (As.map (mv w)) := ⟨PcM_blind, fun U hU hW => hPc U hU hW⟩
          rcases hlk with ⟨-, hw⟩ | ⟨-, hw⟩
          · obtain ⟨c1, c2, c3, c4, c5, c6, c7, c8, c9, c10⟩ := mkC (cm := cm) (mc := mN M1 - mN M) (ms := mS M1 - mS M) hd hmo hpar
            exact Gd_back h1 h2 g1 g2 hl hls hG (va_runS (Ts := []) (As := As.map (mv w)) (rest := rest.map (mv w)) ⟨hx, hb, hml, hown, fun _ hh => by cases hh⟩ hMet ⟨⟨c1, c2, c3, c4, c5, c6, c7, c8, c9, c10, hSt.1 _ (List.mem_of_getElem? hw) rfl args⟩, hSt.1 _ (List.mem_of_getElem? hsw) rfl args⟩ hpre rfl hlen hls.1 hst2 (lr hsum) (dg _ rfl) (room g1 g2 g3 g4))
          · obtain ⟨c1, c2, c3, c4, c5, c6, c7, c8, c9, c10⟩ := mkC (cm := cm) (mc := mN M1 - mN M) (ms := mS M1 - mS M) hd hmo hpar
            exact Gd_back h1 h2 g1 g2 hl hls hG (va_runSN (Ts := []) (As := As.map (mv w)) (rest := rest.map (mv w)) ⟨hx, hb, hml, hown, fun _ hh => by cases hh⟩ hMet ⟨⟨⟨c1, c2, c3, c4, c5, c6⟩, c7, c8, c9, c10, hSt.1 _ (List.mem_of_getElem? hw) rfl args⟩, hSt.1 _ (List.mem_of_getElem? hsw) rfl args, trivial⟩ hpre rfl hlen hls.1 hst2 (lr hsum) (dg _ rfl) (room g1 g2 g3 g4))
      next => cases h
    next cm na nest wi hres =>
      obtain ⟨x, y, r, rfl, h3⟩ := pII_s h
      clear h
      obtain ⟨hd0, h⟩ := if_n h3
      obtain ⟨hsum, h⟩ := if_s h
      have hc := cR_ok (asc_mem hres)
      unfold cOK at hc
      dsimp only at hc
      rcases hc with ⟨q, -⟩ | ⟨-, hw⟩ | ⟨q, -⟩ | ⟨q, -⟩ | ⟨q, -⟩ | ⟨q, -⟩
      · omega
      · obtain ⟨hb9, hG⟩ := KK _ _ _ _ h
        exact va_mmax hx hb (by rw [hml, hls.1]) hown (hSt.1 _ (List.mem_of_getElem? hw) rfl args) (hSt.1 _ (List.mem_of_getElem? mathW4.1) rfl args) (hSt.1 _ (List.mem_of_getElem? mathI) rfl args) (hSt.1 _ (List.mem_of_getElem? mathW4.2) rfl args) (by omega) (by rw [mv_sum]; omega) (by omega) (by omega) (dg _ rfl) (hG H locs ls hH h1 h2 hl hls)
      · omega
      · omega
      · omega
      · omega
    next cm na nest wi hres =>
      obtain ⟨x, y, r, rfl, h3⟩ := pII_s h
      clear h
      obtain ⟨hd0, h⟩ := if_n h3
      obtain ⟨hsum, h⟩ := if_s h
      have hc := cR_ok (asc_mem hres)
      unfold cOK at hc
      dsimp only at hc
      rcases hc with ⟨q, -⟩ | ⟨q, -⟩ | ⟨-, hw⟩ | ⟨q, -⟩ | ⟨q, -⟩ | ⟨q, -⟩
      · omega
      · omega
      · obtain ⟨hb9, hG⟩ := KK _ _ _ _ h
        exact va_mmin hx hb (by rw [hml, hls.1]) hown (hSt.1 _ (List.mem_of_getElem? hw) rfl args) (hSt.1 _ (List.mem_of_getElem? mathW5.1) rfl args) (hSt.1 _ (List.mem_of_getElem? mathI) rfl args) (hSt.1 _ (List.mem_of_getElem? mathW5.2) rfl args) (by omega) (by rw [mv_sum]; omega) (by omega) (by omega) (dg _ rfl) (hG H locs ls hH h1 h2 hl hls)
      · omega
      · omega
      · omega
    next cm na nest wi hres =>
      obtain ⟨x, r, rfl, h3⟩ := pI_s h
      clear h
      obtain ⟨hd0, h⟩ := if_n h3
      obtain ⟨hsum, h⟩ := if_s h
      have hc := cR_ok (asc_mem hres)
      unfold cOK at hc
      dsimp only at hc
      rcases hc with ⟨q, -⟩ | ⟨q, -⟩ | ⟨q, -⟩ | ⟨-, hw⟩ | ⟨q, -⟩ | ⟨q, -⟩
      · omega
      · omega
      · omega
      · obtain ⟨hb9, hG⟩ := KK _ _ _ _ h
        exact va_mabs hx hb (by rw [hml, hls.1]) hown (hSt.1 _ (List.mem_of_getElem? hw) rfl args) (hSt.1 _ (List.mem_of_getElem? mathW6.1) rfl args) (hSt.1 _ (List.mem_of_getElem? mathI) rfl args) (hSt.1 _ (List.mem_of_getElem? mathW6.2) rfl args) (by omega) (by rw [mv_sum]; omega) (by omega) (by omega) (dg _ rfl) (hG H locs ls hH h1 h2 hl hls)
      · omega
      · omega
    next cm na nest wi hres =>
      obtain ⟨x, y, r, rfl, h3⟩ := pLL_s h
      clear h
      obtain ⟨hd0, h⟩ := if_n h3
      obtain ⟨hsum, h⟩ := if_s h
      have hc := cR_ok (asc_mem hres)
      unfold cOK at hc
      dsimp only at hc
      rcases hc with ⟨q, -⟩ | ⟨q, -⟩ | ⟨q, -⟩ | ⟨q, -⟩ | ⟨-, hw⟩ | ⟨q, -⟩
      · omega
      · omega
      · omega
      · omega
      · obtain ⟨hb9, hG⟩ := KK _ _ _ _ h
        exact va_mmax_long hx hb (by rw [hml, hls.1]) hown (hSt.1 _ (List.mem_of_getElem? hw) rfl args) (hSt.1 _ (List.mem_of_getElem? mathW7.1) rfl args) (hSt.1 _ (List.mem_of_getElem? mathI) rfl args) (hSt.1 _ (List.mem_of_getElem? mathW7.2) rfl args) (by omega) (by rw [mv_sum]; omega) (by omega) (by omega) (dg _ rfl) (hG H locs ls hH h1 h2 hl hls)
      · omega
    next => cases h
  · split at h
    next cm na nest wi hres =>
      split at h
      next a As rest hpop =>
        obtain ⟨⟨hsum, hasum⟩, h⟩ := if_s h
        obtain ⟨m', d', r, M1, hd, hm, g1, g2, g3, g4, hMet, hG⟩ := CC _ _ _ _ h
        have hc := cR_ok (asc_mem hres)
        rw [getm hm] at hasum
        unfold cOK at hc
        dsimp only at hc
        rcases hc with ⟨q, -⟩ | ⟨q, -⟩ | ⟨q, -⟩ | ⟨q, -⟩ | ⟨q, -⟩ | ⟨-, ⟨-, hlaw⟩, hpar, hini, ⟨hs1, hs2⟩, hlk⟩
        · omega
        · omega
        · omega
        · omega
        · omega
        · rw [getm hm] at hlaw hpar hini hlk hs1 hs2
          obtain ⟨q, hmo⟩ := facts hm hlaw
          have hnn : m'.2.1.name = "<init>" := hini.mp rfl
          obtain ⟨mo1, mo2, ⟨mo3, mo4, mo5, mo6⟩, mo7, mo8⟩ := id hmo
          obtain ⟨xs, x1, x2, x3⟩ := popN_s _ _ _ _ _ hpop
          rw [List.append_nil] at x3
          have hst : st = As.reverse ++ .ref a :: rest := by
            have : xs = (Value.ref a :: As).reverse := by rw [x3, List.reverse_reverse]
            rw [x2, this, List.reverse_cons, List.append_assoc]
            rfl
          have hlen : (As.map (mv w)).length = na := by
            have : (Value.ref a :: As).length = na + 1 := by rw [x3, List.length_reverse]; exact x1
            rw [List.length_cons] at this
            rw [List.length_map]
            omega
          have hsw : lw_tbl[q.2.2.1]? = some (.instanceMethod m'.2.1) := by
            rcases mo8 with ⟨z, -⟩ | ⟨-, z1, z2⟩
            · have := hs1.mpr z; omega
            · exact z1
          have hret : m'.2.2.2.2.1 = none := hs2.2 rfl
          have hMet := hMet hlaw hasum
          have hst2 : st.map (mv w) = (As.map (mv w)).reverse ++ .ref (rho w a) :: rest.map (mv w) := by rw [hst, List.map_append, ← List.map_reverse]; rfl
          have hpre : PreS s H (PcM w (.ref a :: As) M) (.ref (rho w a) :: As.map (mv w)) := ⟨PcM_blind, fun U hU hW => hPc (As := .ref a :: As) U hU hW⟩
          obtain ⟨c1, c2, c3, c4, c5, c6, c7, c8, c9, c10⟩ := mkC (cm := cm) (mc := mN M1 - mN M) (ms := mS M1 - mS M) hd hmo hpar
          rw [hret] at c5 c6 c7 hMet
          rcases hlk with ⟨-, hw⟩ | ⟨-, hw⟩
          · exact Gd_back h1 h2 g1 g2 hl hls hG (va_runI (Ts := []) (As := As.map (mv w)) (rest := rest.map (mv w)) ⟨hx, hb, hml, hown, fun _ hh => by cases hh⟩ hMet ⟨⟨c1, c2, c3, c4, c5, c6, c7, c8, c9, c10, hSt.1 _ (List.mem_of_getElem? hw) rfl args⟩, hnn, hSt.1 _ (List.mem_of_getElem? hsw) rfl args⟩ hpre rfl hlen hls.1 hst2 (lr hsum) (dg _ rfl) (room g1 g2 g3 g4))
          · exact Gd_back h1 h2 g1 g2 hl hls hG (va_runIN (Ts := []) (As := As.map (mv w)) (rest := rest.map (mv w)) ⟨hx, hb, hml, hown, fun _ hh => by cases hh⟩ hMet ⟨⟨⟨c1, c2, c3, c4, c5, c6⟩, c7, c8, c9, c10, hSt.1 _ (List.mem_of_getElem? hw) rfl args⟩, hnn, hSt.1 _ (List.mem_of_getElem? hsw) rfl args⟩ hpre rfl hlen hls.1 hst2 (lr hsum) (dg _ rfl) (room g1 g2 g3 g4))
      next => cases h
    next cm na nest wi hres =>
      obtain ⟨a, r, rfl, h3⟩ := pR_s h
      clear h
      obtain ⟨hd0, h⟩ := if_n h3
      obtain ⟨hsum, h⟩ := if_s h
      have hc := cR_ok (asc_mem hres)
      unfold cOK at hc
      dsimp only at hc
      rcases hc with ⟨-, hw⟩ | ⟨q, -⟩ | ⟨q, -⟩ | ⟨q, -⟩ | ⟨q, -⟩ | ⟨q, -⟩
      · have hq := lr (st0 := []) hsum
        exact W.objInit hx hb hown (hSt.1 _ (List.mem_of_getElem? hw) rfl args) (hSt.1 _ (List.mem_of_getElem? objW.1) rfl args) (hSt.1 _ (List.mem_of_getElem? objW.2) rfl args) (g := F0 m pc ls (.ref (rho w a) :: r.map (mv w))) rfl (by rw [hml]; exact hls.1) rfl (dg _ rfl) (by omega) (Nat.le_trans (Nat.add_le_add_right hq 12) (by omega)) ((KK _ _ _ _ h).2 H locs ls hH h1 h2 hl hls)
      · omega
      · omega
      · omega
      · omega
      · omega
    next => cases h
  · cases h
end G
