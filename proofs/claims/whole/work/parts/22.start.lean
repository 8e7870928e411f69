/-- the one pure statement that is left: the law's loop, from its first round on -/
def LawLoop : Prop := ∀ (L : Nat) (xs : Nat → Int32), L ≤ 320 → Wn 12 i_LAW_law 18 [(0, .ref 1000000), (1, .ref 0), (2, .ref 248), (3, .int 0)] [] (mm L (I0 xs) J0) (fun v M => v = some (.int 1) ∧ ∃ I J, M = mm L I J)
set_option maxRecDepth 100000 in
theorem strW : lw_tbl[303]? = some (.stringRef "KnotNames$Text" 19 "udlrio") ∧ lw_tbl[317]? = some (.laysStatic "java/lang/String" "COMPACT_STRINGS" "Z") ∧ lw_tbl[123]? = some (.arrayOver (.object "KnotNames$Row")) ∧ lw_tbl[165]? = some (.arrayOver (.object "KnotNames$Camp")) ∧ lw_tbl[235]? = some (.arrayOver (.array .int)) ∧ lw_tbl[87]? = some (.initialized "java/lang/String") := by decide +kernel
set_option maxRecDepth 100000 in
set_option maxHeartbeats 4000000 in
theorem St_start {s : State} {b L : Nat} {xs : Nat → Int32} (hts : ∀ x ∈ lw_tbl, x.before #[Value.ref b] s = true) (hX : va_X b L xs s s.heap) (hgv : (Jvm.Cond.and given_1 narrow_1).before #[Value.ref b] s = true) :
    ∃ (sA vA : Nat) (D : va_G) (ar : Nat → ClassId), St (s.heap.size, sA, vA, b, s.heap, L, xs, D, ar) s := by
  have hs := flat_of_before _ hgv
  have hK8 : ∀ ci, ci < 8 → ∃ (cC : ClassId) (iS : Nat → Nat), ∀ q, vwCl[ci]? = some q → u_Kn s q.1 q.2.1 q.2.2 cC iS := by
    intro ci hci
    obtain ⟨C, T, N, ty, hcls⟩ := cls_ok hci
    obtain ⟨cC, iS, hk⟩ := u_known (n := N) hts (fun x hx => (hcls.2.1 x hx).1) (hts _ hcls.2.2.2.2.2.2.2.2.2.1)
    refine ⟨cC, iS, fun q hq => ?_⟩
    have : q = (C, T, N) := Option.some.inj (hq.symm.trans hcls.1)
    rw [this]
    exact hk
  have hD : ∃ D : va_G, ∀ (c : Nat) (q : vw_C), vwCl[c]? = some q → u_Kn s q.1 q.2.1 q.2.2 (D.1 c) (D.2 c) := by
    have h0 : ∀ ci : Nat, ∃ z : ClassId × (Nat → Nat), ∀ q, vwCl[ci]? = some q → u_Kn s q.1 q.2.1 q.2.2 z.1 z.2 := by
      intro ci
      by_cases hci : ci < 8
      · obtain ⟨cC, iS, h⟩ := hK8 ci hci
        exact ⟨(cC, iS), h⟩
      · refine ⟨(0, fun _ => 0), fun q hq => ?_⟩
        have := (List.getElem?_eq_some_iff.mp hq).1
        have h8 : vwCl.length = 8 := rfl
        omega
    obtain ⟨f, hf⟩ := Classical.axiomOfChoice h0
    exact ⟨(fun c => (f c).1, fun c => (f c).2), fun c q hq => hf c q hq⟩
  obtain ⟨D, hD⟩ := hD
  obtain ⟨cI, kI, pI, fI, gI, hI⟩ := Cond.arrayClass_spec (hts _ (List.mem_of_getElem? aclW.1))
  obtain ⟨cC, kC, pC, fC, gC, hC⟩ := Cond.arrayClass_spec (hts _ (List.mem_of_getElem? aclW.2.1))
  obtain ⟨cZ, kZ, pZ, fZ, gZ, hZ⟩ := Cond.arrayClass_spec (hts _ (List.mem_of_getElem? aclW.2.2))
  have aoR := hts _ (List.mem_of_getElem? strW.2.2.1)
  have aoC := hts _ (List.mem_of_getElem? strW.2.2.2.1)
  have aoI := hts _ (List.mem_of_getElem? strW.2.2.2.2.1)
  obtain ⟨pR, cR, kR, fR1, -, fR2, fR3, fR4⟩ := Cond.arrayOver_spec aoR
  obtain ⟨pK, cK, kK, fK1, -, fK2, fK3, fK4⟩ := Cond.arrayOver_spec aoC
  obtain ⟨pG, cG, kG, fG1, -, fG2, fG3, fG4⟩ := arrayOverA_spec aoI
  have hA : ∀ a : Nat, a < s.heap.size → ¬ (fun q : Nat => s.heap.size ≤ q) a := fun a ha q => by have : s.heap.size ≤ a := q; omega
  obtain ⟨adK, adV, hSt, hev⟩ := vk_Sof (args := #[Value.ref b]) (s := s) (N := 1) (tm := fun _ => Term.string "KnotNames$Text" 19) (len := [6]) (byt := [byU]) (A := fun q : Nat => s.heap.size ≤ q)
    (fun i hi => by rw [show i = 0 by omega]; decide) (fun i _ => hs _ (by decide +kernel)) (fun i _ => hs _ (by decide +kernel)) (fun i _ => hs _ (by decide +kernel)) (fun i hi => by rw [show i = 0 by omega]; exact hs (Cond.eq (.length (.field (.string "KnotNames$Text" 19) "java/lang/String" "value" "[B")) (.int 6)) (by decide +kernel))
    (fun i hi j hj => by
      have hi0 : i = 0 := by omega
      subst hi0
      have hj : j < 6 := hj
      rcases (show j = 0 ∨ j = 1 ∨ j = 2 ∨ j = 3 ∨ j = 4 ∨ j = 5 by omega) with rfl | rfl | rfl | rfl | rfl | rfl
      · exact hs (Cond.eq (.elem (.field (.string "KnotNames$Text" 19) "java/lang/String" "value" "[B") (.int 0)) (.int 117)) (by decide +kernel)
      · exact hs (Cond.eq (.elem (.field (.string "KnotNames$Text" 19) "java/lang/String" "value" "[B") (.int 1)) (.int 100)) (by decide +kernel)
      · exact hs (Cond.eq (.elem (.field (.string "KnotNames$Text" 19) "java/lang/String" "value" "[B") (.int 2)) (.int 108)) (by decide +kernel)
      · exact hs (Cond.eq (.elem (.field (.string "KnotNames$Text" 19) "java/lang/String" "value" "[B") (.int 3)) (.int 114)) (by decide +kernel)
      · exact hs (Cond.eq (.elem (.field (.string "KnotNames$Text" 19) "java/lang/String" "value" "[B") (.int 4)) (.int 105)) (by decide +kernel)
      · exact hs (Cond.eq (.elem (.field (.string "KnotNames$Text" 19) "java/lang/String" "value" "[B") (.int 5)) (.int 111)) (by decide +kernel))
    (fun i j hi hj hne => by omega) hA
  have hZs := va_Zof (A := fun q : Nat => s.heap.size ≤ q) (hts _ (List.mem_of_getElem? strW.2.1)) (hts _ (List.mem_of_getElem? strW.2.2.2.2.2)) (va_eqi (hs (Cond.eq (.static "java/lang/String" "COMPACT_STRINGS" "Z") (.int 1)) (by decide +kernel))) hA
  refine ⟨adK 0, adV 0, D, (fun t => if t = 10 then cI else if t = 11 then cC else if t = 12 then cZ else if t = 14 then cR else if t = 15 then cK else cG), fun x hx hg a => ?_, ⟨hD, fun k q hq => ?_⟩, hX, vk_R.of (hts _ (List.mem_of_getElem? strW.1)) (hev 0 (by omega)), ?_, hZs, va_AO.of aoR, va_AO.of aoC, aoI⟩
  · have hx1 := hts x hx
    cases x <;> first
      | exact va_Nw.use rfl (va_Nw.of rfl hx1)
      | exact word_at (args := #[Value.ref b]) (State.WarmedH.refl s) (good_of_word hg) hx1
  · have hk := (List.getElem?_eq_some_iff.mp hq).1
    have hk : k < 6 := hk
    rcases (show k = 0 ∨ k = 1 ∨ k = 2 ∨ k = 3 ∨ k = 4 ∨ k = 5 by omega) with rfl | rfl | rfl | rfl | rfl | rfl
    · cases hq
      exact ⟨fun N z => ⟨(fun q h => by cases h), kI, gI, pI, hI⟩, fI⟩
    · cases hq
      exact ⟨fun N z => ⟨(fun q h => by cases h), kC, gC, pC, hC⟩, fC⟩
    · cases hq
      exact ⟨fun N z => ⟨(fun q h => by cases h), kZ, gZ, pZ, hZ⟩, fZ⟩
    · cases hq
      exact ⟨fun N z => ⟨(fun q h => by cases h), kR, fR2, pR, fR3⟩, kR, pR, fR2, fR3, fR1, fR4⟩
    · cases hq
      exact ⟨fun N z => ⟨(fun q h => by cases h), kK, fK2, pK, fK3⟩, kK, pK, fK2, fK3, fK1, fK4⟩
    · cases hq
      exact ⟨fun N z => ⟨(fun q h => by cases h), kG, fG2, pG, fG3⟩, fG4⟩
  · refine ⟨fun i hi => ?_, fun i j _ _ _ => by omega⟩
    have hi0 : i = 0 := by omega
    subst hi0
    exact hSt.1 0 (by omega)
def mLAW : MT := m_LAW_law
set_option maxRecDepth 100000 in
theorem lawM : mt[i_LAW_law]? = some m_LAW_law := by rfl
set_option maxRecDepth 1000000 in
theorem memS_b : mN memA0 ≤ 600000 ∧ mS memA0 ≤ 7302250 ∧ mN memA ≤ 600000 ∧ mS memA ≤ 7302250 ∧ mN memB0 ≤ 600000 ∧ mS memB0 ≤ 7302250 ∧ mN memB ≤ 600000 ∧ mS memB ≤ 7302250 ∧ mN memA = 248 ∧ mN memB0 = 249 := by decide +kernel
set_option maxRecDepth 100000 in
theorem sp0 (M : Mem) (h : mN M < 800000) : sp m_LAW_law 12 0 [(0, .ref 1000000)] [] M = some (.inl (3, [(0, .ref 1000000)], [.ref (mN M)], fresh M 6 0 12)) := by
  show (if mN M < 800000 ∧ 6 < 8 then s0K 3 [(0, .ref 1000000)] (.ref (mN M) :: []) (fresh M 6 0 12) else none) = _
  rw [if_pos ⟨h, by decide⟩]
  rfl
set_option maxRecDepth 100000 in
theorem sp8 (M : Mem) (x : Nat) (h : mN M < 800000) : sp m_LAW_law 12 8 [(0, .ref 1000000), (1, .ref x)] [] M = some (.inl (11, [(0, .ref 1000000), (1, .ref x)], [.ref (mN M)], fresh M 7 0 20)) := by
  show (if mN M < 800000 ∧ 7 < 8 then s0K 11 [(0, .ref 1000000), (1, .ref x)] (.ref (mN M) :: []) (fresh M 7 0 20) else none) = _
  rw [if_pos ⟨h, by decide⟩]
  rfl
set_option maxRecDepth 100000 in
set_option maxHeartbeats 4000000 in
/-- THE LAW, from its entry, out of its loop -/
theorem start_of (hLL : LawLoop) {p : Program} {e : Env} {s : State} {m : MethodId} {below : List Frame} {meth : Method} {c : Code} (l : Launch) {b L : Nat} {xs : Nat → Int32} (hL : L ≤ 320) (C0 : lw_At p s m meth c b L xs) : W p l e room_1 s m #[Value.ref b] below meth c s.heap [] 0 0 (lw_Z below #[Value.ref b] s) (entryFrame m ([Value.ref b] : List Value).toArray 4) := by
  obtain ⟨hx, hb, hr, hml, hown, hts, hX, hbl, hlocks, hgv⟩ := id C0
  obtain ⟨sA, vA, D, ar, hSt⟩ := St_start hts hX hgv
  generalize hw : ((s.heap.size, sA, vA, b, s.heap, L, xs, D, ar) : WP) = w at hSt
  have wB0 : wB w = s.heap.size := by rw [← hw]; rfl
  have wH0 : wH w = s.heap := by rw [← hw]; rfl
  have wL0 : wL w = L := by rw [← hw]; rfl
  have wX0 : wX w = xs := by rw [← hw]; rfl
  have wS0 : wSc w = b := by rw [← hw]; rfl
  have hwz : (wH w).size = wB w := by rw [wB0, wH0]
  have hH0 : HR w mem0 s.heap := by
    refine ⟨by rw [wB0]; rfl, fun q _ => by rw [wH0], fun i hi => absurd hi (Nat.not_lt_zero i), by show 0 ≤ 900000; omega, fun a ha => ?_, fun a ha => absurd ha (Nat.not_lt_zero a), fun a ha => ?_, fun a ha => ?_, fun a ha => ?_⟩
    · exfalso
      apply ha
      show old (if a = 1000001 then 20 else if a = 1000002 then 13 else 99)
      unfold old
      split
      · omega
      · split <;> omega
    all_goals
      have ha : (if a = 1000001 then 20 else if a = 1000002 then 13 else 99) = _ := ha
      by_cases q1 : a = 1000001
      · rw [if_pos q1] at ha
        first
          | (refine ⟨q1, ?_, ?_⟩
             · show (if a = 1000001 ∧ 0 = 0 then 1000002 else 999999) = _; rw [if_pos ⟨q1, rfl⟩]
             · show (if a = 1000002 then _ else _) = _; rw [if_neg (by omega)])
          | (exfalso; omega)
      · rw [if_neg q1] at ha
        by_cases q2 : a = 1000002
        · rw [if_pos q2] at ha
          first
            | (refine ⟨q2, ?_, ?_⟩
               · show (if a = 1000002 then 6 else 0) = _; rw [if_pos q2]
               · intro k; show (if a = 1000002 then _ else _) = _; rw [if_pos q2])
            | (exfalso; omega)
        · rw [if_neg q2] at ha
          exfalso; omega
  have cx0 : Cx w p room_1 s m #[Value.ref b] meth c m_LAW_law.2.2.1 m_LAW_law.1 m_LAW_law.2.2.2.1 0 0 600000 7302250 m_LAW_law.2.2.2.2.2.1 :=
    ⟨hx, hb, hml, hown, hSt, fun q _ => by rw [wH0], ⟨by rw [wB0]; rfl, hwz⟩, Nat.le_refl _, Nat.le_refl _, fun h => by cases h⟩
  obtain ⟨b1, b2, b3, b4, b5, b6, b7, b8, b9, b10⟩ := memS_b
  -- the loop
  have hloop : Gd w p l e room_1 s m #[Value.ref b] below meth c 4 0 0 (lw_Z below #[Value.ref b] s) 18 [(0, .ref 1000000), (1, .ref 0), (2, .ref 248), (3, .int 0)] [] memB := by
    obtain ⟨n, v, M', hrun, hv, I, J, hM'⟩ := hLL L xs hL
    have cx1 : Cx w p room_1 s m #[Value.ref b] meth c m_LAW_law.2.2.1 m_LAW_law.1 m_LAW_law.2.2.2.1 0 0 (mN M') (mS M') m_LAW_law.2.2.2.2.2.1 :=
      ⟨hx, hb, hml, hown, hSt, fun q _ => by rw [wH0], ⟨by rw [wB0]; rfl, hwz⟩, by rw [hM']; show 262 - 0 ≤ 600000; omega, by rw [hM']; show 3835 - 0 ≤ 7302250; omega, fun h => by cases h⟩
    have hG := bok l hwz n 12 i_LAW_law m_LAW_law 18 _ _ _ v M' lawM hrun p e room_1 s m #[Value.ref b] below meth c (lw_Z below #[Value.ref b] s) 0 0 cx1 (by show 12 ≤ 2048; omega) (by show 64 * 12 ≤ 84000; omega) ?_
    · intro H locs ls hH h1 h2 hl hls
      have hH2 := HR_mm hH
      rw [wL0, wX0] at hH2
      have := hG H locs ls hH2 (Nat.zero_le _) (Nat.zero_le _) hl hls
      have e1 : mN (mm L (I0 xs) J0) = mN memB := by rw [memB_N.1]; rfl
      have e2 : mS (mm L (I0 xs) J0) = mS memB := by rw [memB_N.2]; rfl
      rw [e1, e2] at this
      exact this
    · intro i pc st ls H locs dg ht hH hlc
      subst hv
      have hst : i = .ireturn ∧ st = [.int 1] := by
        unfold stT at ht
        split at ht
        · split at ht
          · split at ht
            · cases ht; exact ⟨rfl, rfl⟩
            · obtain ⟨-, ht⟩ := if_s ht
              cases ht; exact ⟨rfl, rfl⟩
            · obtain ⟨-, ht⟩ := if_s ht
              cases ht; exact ⟨rfl, rfl⟩
            · cases ht
          · cases ht
        · split at ht
          · split at ht <;> cases ht
          · cases ht
        · split at ht
          · split at ht <;> cases ht
          · cases ht
        · split at ht
          · split at ht <;> cases ht
          · cases ht
        · cases ht
      obtain ⟨rfl, rfl⟩ := hst
      refine va_forget (fun q hq => by rw [← wB0]; exact hlc q hq) ?_
      refine W.widen (k := 600000) (n := 7302250) (by rw [hM']; show 262 - 0 ≤ 600000; omega) (by rw [hM']; show 3835 - 0 ≤ 7302250; omega) ?_
      exact lw_ret hx hb hr hlocks dg
  -- the way to it
  have hgo : Gd w p l e room_1 s m #[Value.ref b] below meth c 4 0 0 (lw_Z below #[Value.ref b] s) 0 [(0, .ref 1000000)] [] mem0 := by
    have R1 : 12 ≤ room_1.frames := by show 12 ≤ 2048; omega
    have R2 : 64 * 12 ≤ room_1.locals := by show 64 * 12 ≤ 84000; omega
    refine Gd_step lawM cx0 R1 R2 (sp0 mem0 (by show 0 < 800000; omega)) ⟨b1, b2⟩ ?_
    refine Gd_step (M' := memA0) (pc' := 4) (lv' := [(0, .ref 1000000)]) (st' := [.ref 0, .ref 0]) lawM cx0 R1 R2 rfl ⟨b1, b2⟩ ?_
    refine Gd_call (n := 20000) (d' := 11) (pc' := 7) (r := none) (M1 := memA) (cm := i_KN_init) (As := [.ref 0]) (rest := [.ref 0]) hwz lawM cx0 R1 R2 rfl rfl memA_ok ⟨b3, b4⟩ ?_
    refine Gd_step (M' := memA) (pc' := 8) (lv' := [(0, .ref 1000000), (1, .ref 0)]) (st' := []) lawM cx0 R1 R2 rfl ⟨b3, b4⟩ ?_
    refine Gd_step lawM cx0 R1 R2 (sp8 memA 0 (by omega)) ⟨b5, b6⟩ ?_
    rw [b9]
    refine Gd_step (M' := memB0) (pc' := 12) (lv' := [(0, .ref 1000000), (1, .ref 0)]) (st' := [.ref 248, .ref 248]) lawM cx0 R1 R2 rfl ⟨b5, b6⟩ ?_
    refine Gd_call (n := 20000) (d' := 11) (pc' := 15) (r := none) (M1 := memB) (cm := i_MD_init) (As := [.ref 248]) (rest := [.ref 248]) hwz lawM cx0 R1 R2 rfl rfl memB_ok ⟨b7, b8⟩ ?_
    refine Gd_step (M' := memB) (pc' := 16) (lv' := [(0, .ref 1000000), (1, .ref 0), (2, .ref 248)]) (st' := []) lawM cx0 R1 R2 rfl ⟨b7, b8⟩ ?_
    refine Gd_step (M' := memB) (pc' := 17) (lv' := [(0, .ref 1000000), (1, .ref 0), (2, .ref 248)]) (st' := [.int 0]) lawM cx0 R1 R2 rfl ⟨b7, b8⟩ ?_
    exact Gd_step (M' := memB) (pc' := 18) (lv' := [(0, .ref 1000000), (1, .ref 0), (2, .ref 248), (3, .int 0)]) (st' := []) lawM cx0 R1 R2 rfl ⟨b7, b8⟩ hloop
  have hl := lv_entry ([.ref b]) (n := 4) (Nat.le_of_ble_eq_true rfl)
  rw [lg_entry_eq]
  have hmv : lv_args 0 [.ref b] = mvl w [(0, .ref 1000000)] := by
    show [(0, Value.ref b)] = [(0, .ref (rho w 1000000))]
    have : rho w 1000000 = b := by unfold rho; rw [if_neg (by omega), if_pos rfl, wS0]
    rw [this]
  rw [hmv] at hl
  exact hgo s.heap [] _ hH0 (Nat.le_refl _) (Nat.le_refl _) (fun q h => by cases h) hl
