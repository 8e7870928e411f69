set_option maxRecDepth 100000 in
theorem aclW : lw_tbl[142]? = some (.arrayClass .int) ∧ lw_tbl[115]? = some (.arrayClass .char) ∧ lw_tbl[211]? = some (.arrayClass .boolean) := by decide +kernel
set_option maxRecDepth 100000 in
theorem mnaW : lw_tbl[234]? = some (.classLink "KnotNames" 67 "[[I") := by decide +kernel
theorem rows_N : ∀ (j k : Nat) (M : Mem), mN (rows j k M) = mN M + j ∧ mS (rows j k M) = mS M + j * k := by
  intro j
  induction j with
  | zero => intro k M; exact ⟨rfl, by show mS M = _; omega⟩
  | succ j ih =>
    intro k M
    have := ih k (fresh M 10 k k)
    refine ⟨?_, ?_⟩
    · show mN (rows j k (fresh M 10 k k)) = _
      rw [this.1]
      show mN M + 1 + j = _
      omega
    · show mS (rows j k (fresh M 10 k k)) = _
      rw [this.2]
      show mS M + k + j * k = _
      rw [Nat.succ_mul]
      omega
theorem rows_C : ∀ (j k : Nat) (M : Mem) (b : Nat), (mN M ≤ b ∧ b < mN M + j → mC (rows j k M) b = 10 ∧ mL (rows j k M) b = k ∧ (∀ q, mI (rows j k M) b q = 0) ∧ (∀ q, mJ (rows j k M) b q = 0) ∧ (∀ q, mR (rows j k M) b q = 999999)) ∧
    (¬ (mN M ≤ b ∧ b < mN M + j) → mC (rows j k M) b = mC M b ∧ mL (rows j k M) b = mL M b ∧ mI (rows j k M) b = mI M b ∧ mJ (rows j k M) b = mJ M b ∧ mR (rows j k M) b = mR M b) := by
  intro j
  induction j with
  | zero => intro k M b; exact ⟨fun h => by omega, fun _ => ⟨rfl, rfl, rfl, rfl, rfl⟩⟩
  | succ j ih =>
    intro k M b
    have hb := ih k (fresh M 10 k k) b
    have hN : mN (fresh M 10 k k) = mN M + 1 := rfl
    rw [hN] at hb
    show (_ → mC (rows j k (fresh M 10 k k)) b = 10 ∧ mL (rows j k (fresh M 10 k k)) b = k ∧ (∀ q, mI (rows j k (fresh M 10 k k)) b q = 0) ∧ (∀ q, mJ (rows j k (fresh M 10 k k)) b q = 0) ∧ (∀ q, mR (rows j k (fresh M 10 k k)) b q = 999999)) ∧ (_ → mC (rows j k (fresh M 10 k k)) b = mC M b ∧ mL (rows j k (fresh M 10 k k)) b = mL M b ∧ mI (rows j k (fresh M 10 k k)) b = mI M b ∧ mJ (rows j k (fresh M 10 k k)) b = mJ M b ∧ mR (rows j k (fresh M 10 k k)) b = mR M b)
    constructor
    · intro h
      by_cases e : b = mN M
      · obtain ⟨q1, q2, q3, q4, q5⟩ := hb.2 (by omega)
        rw [q1, q2, q3, q4, q5]
        subst e
        refine ⟨?_, ?_, fun q => ?_, fun q => ?_, fun q => ?_⟩
        · show va_up _ _ _ _ = _; unfold va_up; rw [if_pos rfl]
        · show va_up _ _ _ _ = _; unfold va_up; rw [if_pos rfl]
        · show (if _ then _ else _) = _; rw [if_pos rfl]
        · show (if _ then _ else _) = _; rw [if_pos rfl]
        · show (if _ then _ else _) = _; rw [if_pos rfl]
      · exact hb.1 (by omega)
    · intro h
      have e : b ≠ mN M := by omega
      obtain ⟨q1, q2, q3, q4, q5⟩ := hb.2 (by omega)
      rw [q1, q2, q3, q4, q5]
      refine ⟨?_, ?_, ?_, ?_, ?_⟩
      · show va_up _ _ _ _ = _; unfold va_up; rw [if_neg e]
      · show va_up _ _ _ _ = _; unfold va_up; rw [if_neg e]
      · funext q; show (if _ then _ else _) = _; rw [if_neg e]
      · funext q; show (if _ then _ else _) = _; rw [if_neg e]
      · funext q; show (if _ then _ else _) = _; rw [if_neg e]
theorem grid_f (M : Mem) (n k : Nat) : mN (grid M n k) = mN M + 1 + n ∧ mS (grid M n k) = mS M + n + n * k ∧ mC (grid M n k) = mC (rows n k (fresh M 16 n n)) ∧ mL (grid M n k) = mL (rows n k (fresh M 16 n n)) ∧ mI (grid M n k) = mI (rows n k (fresh M 16 n n)) ∧ mJ (grid M n k) = mJ (rows n k (fresh M 16 n n)) ∧ mR (grid M n k) = fun x j => if x = mN M ∧ j < n then mN M + 1 + j else mR (rows n k (fresh M 16 n n)) x j := by
  have h := rows_N n k (fresh M 16 n n)
  refine ⟨?_, ?_, rfl, rfl, rfl, rfl, rfl⟩
  · show mN (rows n k (fresh M 16 n n)) = _
    rw [h.1]
    show mN M + 1 + n = _
    rfl
  · show mS (rows n k (fresh M 16 n n)) = _
    rw [h.2]
    rfl
section G
variable {w : WP} {p : Program} {l : Launch} {e : Env} {R : Room} {s : State} {m : MethodId} {args : Array Value} {below : List Frame} {meth : Method} {c : Code} {Q : State → Prop} {nL n0 s0 nT sT : Nat} {cc : ByteArray} {o : Nat} {ini : Bool}
theorem fr_C (M : Mem) (t len sl : Nat) : mC (fresh M t len sl) (mN M) = t := by show va_up _ _ _ _ = _; unfold va_up; rw [if_pos rfl]
theorem fr_L (M : Mem) (t len sl : Nat) : mL (fresh M t len sl) (mN M) = len := by show va_up _ _ _ _ = _; unfold va_up; rw [if_pos rfl]
theorem fr_I (M : Mem) (t len sl j : Nat) : mI (fresh M t len sl) (mN M) j = 0 := by show (if _ then _ else _) = _; rw [if_pos rfl]
theorem fr_J (M : Mem) (t len sl j : Nat) : mJ (fresh M t len sl) (mN M) j = 0 := by show (if _ then _ else _) = _; rw [if_pos rfl]
theorem fr_R (M : Mem) (t len sl j : Nat) : mR (fresh M t len sl) (mN M) j = 999999 := by show (if _ then _ else _) = _; rw [if_pos rfl]
set_option maxHeartbeats 4000000 in
theorem st_new {i : Instr} {pc : Nat} {lv : LV} {st : List Value} {M : Mem} {K : Nat → LV → List Value → Mem → Option (Option Value × Mem)} {res : Option Value × Mem} (cx : Cx w p R s m args meth c cc o nL n0 s0 nT sT ini) (dg : ∀ k, lenI i = some k → decode cc pc = .ok (i, k))
    (hi : (∃ n, i = .new n) ∨ (∃ t, i = .newarray t) ∨ (∃ n, i = .anewarray n))
    (KK : ∀ pc' lv' st' M', K pc' lv' st' M' = some res → (mN M' ≤ nT ∧ mS M' ≤ sT) ∧ Gd w p l e R s m args below meth c nL n0 s0 Q pc' lv' st' M') (h : stH none K o ini pc lv st M i = some res) : Gd w p l e R s m args below meth c nL n0 s0 Q pc lv st M := by
  obtain ⟨hx, hb, hml, hown, hSt, hold, hsz, hRc, hRs, hin⟩ := cx
  intro H locs ls hH h1 h2 hl hls
  have hK := hSt.2.1
  rcases hi with ⟨n, rfl⟩ | ⟨t, rfl⟩ | ⟨n, rfl⟩
  · unfold stH at h
    dsimp only at h
    split at h
    next q hq =>
      obtain ⟨⟨hlim, hc8⟩, h⟩ := if_s h
      have hk := kR_ok _ (asc2_mem hq)
      rcases hk with ⟨-, hw⟩ | h16
      · dsimp only at hw
        obtain ⟨C, T, N, ty, hcls⟩ := cls_ok hc8
        obtain ⟨hcl, hws, hty, hnm, hN, htk, hfin, hdecl, hC, hinst, hini⟩ := id hcls
        have hKn := hK.1 q.1 _ hcl
        obtain ⟨⟨b1, b2⟩, hG⟩ := KK _ _ _ _ h
        have b1' : mN M + 1 ≤ nT := b1
        have b2' : mS M + nf q.1 ≤ sT := b2
        refine W.newcK (C := C) (n := N) hx hb hown (by rw [hC]; exact hSt.1 _ (List.mem_of_getElem? hw) rfl args) (hSt.1 _ hinst rfl args) (hSt.1 _ hini rfl args) rfl (dg _ rfl) (by omega) (by omega) hKn.2.1 (h := wB w + mN M) hH.1 fun H1 kC hkC e1 z1 o1 => ?_
        refine W.cs (cells' := mN (fresh M q.1 0 (nf q.1)) - n0) (slots' := mS (fresh M q.1 0 (nf q.1)) - s0) (by show _ = mN M + 1 - n0; omega) (by show _ = mS M + nf q.1 - s0; omega) ?_
        have hres := hG H1 locs ls (HR_fresh hH hlim (by unfold old; omega) ?_ (by rw [z1, hH.1]) (fun x hx => o1 x (by rw [← hH.1]; exact hx))) (by show n0 ≤ mN M + 1; omega) (by show s0 ≤ mS M + nf q.1; omega) hl hls
        · have ee : mv w (.ref (mN M)) = .ref (wB w + mN M) := by show Value.ref (rho w (mN M)) = _; rw [rho_lo (by omega)]
          show W p l e R s m args below meth c H1 locs _ _ Q (F0 m (pc + 3) ls (.ref (wB w + mN M) :: st.map (mv w)))
          rw [← ee]
          exact hres
        · rw [cellO (fr_C M q.1 0 (nf q.1)) hc8]
          refine ⟨_, hcl, (u_born ty (St_ws (args := args) hSt hws) (fun _ x => x) hKn hkC e1 hty).to fun j hj => ?_⟩
          show _ = (flds w (fresh M q.1 0 (nf q.1)) (mN M) q.1).getD j .null
          rw [List.getD_eq_getElem?_getD, flds_get _ _ _ (by omega)]
          show _ = fV w (fresh M q.1 0 (nf q.1)) (mN M) q.1 j
          unfold fV
          rw [fr_I, fr_J, fr_R]
          rcases htk j hj with ⟨q1, q2⟩ | ⟨q1, q2⟩ | ⟨q1, q2⟩
          · rw [q1, q2]; rfl
          · rw [q1, q2]; rfl
          · rw [q1]
            cases hq9 : ty j <;> rw [hq9] at q2 <;> first | rfl | cases q2
      · dsimp only at h16
        omega
    next => cases h
  · obtain ⟨x, r, rfl, h3⟩ := pI_s h
    clear h
    obtain ⟨⟨hlim, hx0, hx1⟩, h⟩ := if_s h3
    have g : ∀ (tag j wi : Nat) (ty : FieldType), (tag = 10 ∨ tag = 11 ∨ tag = 12) → Op.newarray.typeOf t = ty → lw_tbl[wi]? = some (.arrayClass ty) → (tysW w)[j]? = some (wA w tag, ty) → (∀ cA, s.vm.findClass ("[" ++ ty.toString) = some cA → cA = wA w tag) → defaultValue ty = .int 0 → componentBytes ty ≤ 4 → K (pc + 2) lv (.ref (mN M) :: r) (fresh M tag x.toNatClampNeg x.toNatClampNeg) = some res → W p l e R s m args below meth c H locs (mN M - n0) (mS M - s0) Q (F0 m pc ls (.int x :: r.map (mv w))) := by
      intro tag j wi ty htag hty hw hj hcA hdv hcb h
      obtain ⟨⟨b1, b2⟩, hG⟩ := KK _ _ _ _ h
      have b1' : mN M + 1 ≤ nT := b1
      have b2' : mS M + x.toNatClampNeg ≤ sT := b2
      have hmul : x.toNatClampNeg * componentBytes (Op.newarray.typeOf t) ≤ 1000 * 4 := by rw [hty]; exact Nat.mul_le_mul hx1 hcb
      refine va_newaK hx hb (by rw [hty]; exact hSt.1 _ (List.mem_of_getElem? hw) rfl args) rfl (dg _ rfl) rfl hx0 rfl (by omega) (by omega) (by omega) (h := wB w + mN M) hH.1 fun H1 cA e1 z1 o1 hAr hNm => ?_
      refine W.cs (cells' := mN (fresh M tag x.toNatClampNeg x.toNatClampNeg) - n0) (slots' := mS (fresh M tag x.toNatClampNeg x.toNatClampNeg) - s0) (by show _ = mN M + 1 - n0; omega) (by show _ = mS M + x.toNatClampNeg - s0; omega) ?_
      have hres := hG H1 locs ls (HR_fresh hH hlim (by unfold old; omega) ?_ (by rw [z1, hH.1]) (fun y hy => o1 y (by rw [← hH.1]; exact hy))) (by show n0 ≤ mN M + 1; omega) (by show s0 ≤ mS M + x.toNatClampNeg; omega) hl hls
      · have ee : mv w (.ref (mN M)) = .ref (wB w + mN M) := by show Value.ref (rho w (mN M)) = _; rw [rho_lo (by omega)]
        show W p l e R s m args below meth c H1 locs _ _ Q (F0 m (pc + 2) ls (.ref (wB w + mN M) :: r.map (mv w)))
        rw [← ee]
        exact hres
      · rw [cellIs (fr_C M tag x.toNatClampNeg x.toNatClampNeg) htag]
        show H1[wB w + mN M]? = some (vp_cell _ _)
        rw [hty] at hNm e1
        rw [e1, hcA cA hNm, vp_cell_i, fr_L, hdv]
        congr 2
        funext q
        rw [fr_I]
    have f0 : s.vm.findClass ("[" ++ FieldType.int.toString) = some (wA w 10) := (hK.2 0 _ rfl).2
    have f1 : s.vm.findClass ("[" ++ FieldType.char.toString) = some (wA w 11) := (hK.2 1 _ rfl).2
    have f2 : s.vm.findClass ("[" ++ FieldType.boolean.toString) = some (wA w 12) := (hK.2 2 _ rfl).2
    split at h
    · exact g 10 0 142 .int (by omega) rfl aclW.1 rfl (fun cA hc => (Option.some.inj (f0.symm.trans hc)).symm) rfl (by decide) h
    · exact g 11 1 115 .char (by omega) rfl aclW.2.1 rfl (fun cA hc => (Option.some.inj (f1.symm.trans hc)).symm) rfl (by decide) h
    · exact g 12 2 211 .boolean (by omega) rfl aclW.2.2 rfl (fun cA hc => (Option.some.inj (f2.symm.trans hc)).symm) rfl (by decide) h
    · cases h
  · unfold stH at h
    dsimp only at h
    split at h
    next q hq =>
      obtain ⟨x, r, rfl, h3⟩ := pI_s h
      clear h
      obtain ⟨⟨hlim, hx0, hx1⟩, h⟩ := if_s h3
      have hk := kR_ok _ (asc2_mem hq)
      have g : ∀ (tag j : Nat) (C : String), (tag = 14 ∨ tag = 15) → (Cond.classLink (nm o) n C).before args s = true → va_AO C s → (tysW w)[j]? = some (wA w tag, .object C) → K (pc + 3) lv (.ref (mN M) :: r) (fresh M tag x.toNatClampNeg x.toNatClampNeg) = some res → W p l e R s m args below meth c H locs (mN M - n0) (mS M - s0) Q (F0 m pc ls (.int x :: r.map (mv w))) := by
        intro tag j C htag hcl hao hj h
        obtain ⟨⟨b1, b2⟩, hG⟩ := KK _ _ _ _ h
        have b1' : mN M + 1 ≤ nT := b1
        have b2' : mS M + x.toNatClampNeg ≤ sT := b2
        refine W.anew hx hb hown hcl (va_AO.use hao) rfl (dg _ rfl) rfl hx0 (by omega) (by omega) (by omega) fun cA kA comp f1 f2 f3 f4 => ?_
        generalize hH1 : H.push ({ cls := cA, slots := Array.replicate x.toNatClampNeg .null, vm := .none } : Cell) = H1
        have z1 : H1.size = H.size + 1 := by rw [← hH1, Array.size_push]
        have e1 : H1[H.size]? = some (arrV cA x.toNatClampNeg (fun _ => .null)) := by rw [← hH1, Array.getElem?_push_size, ← arrV_new]
        have o1 : ∀ q : Nat, q < H.size → H1[q]? = H[q]? := fun q hq => by rw [← hH1, Array.getElem?_push, if_neg (Nat.ne_of_lt hq)]
        obtain ⟨kA', comp', -, -, -, f5⟩ := (hK.2 j _ hj).2
        have hcA : cA = wA w tag := Option.some.inj (f1.symm.trans f5)
        subst hcA
        refine W.cs (cells' := mN (fresh M tag x.toNatClampNeg x.toNatClampNeg) - n0) (slots' := mS (fresh M tag x.toNatClampNeg x.toNatClampNeg) - s0) (by show _ = mN M + 1 - n0; omega) (by show _ = mS M + x.toNatClampNeg - s0; omega) ?_
        have hres := hG H1 locs ls (HR_fresh hH hlim (by unfold old; omega) ?_ z1 o1) (by show n0 ≤ mN M + 1; omega) (by show s0 ≤ mS M + x.toNatClampNeg; omega) hl hls
        · have ee : mv w (.ref (mN M)) = .ref H.size := by show Value.ref (rho w (mN M)) = _; rw [rho_lo (by omega), hH.1]
          show W p l e R s m args below meth c H1 locs _ _ Q (F0 m (pc + 3) ls (.ref H.size :: r.map (mv w)))
          rw [← ee]
          exact hres
        · rw [cellRs (fr_C M tag x.toNatClampNeg x.toNatClampNeg) (by omega)]
          show H1[wB w + mN M]? = some (vp_cell _ _)
          rw [← hH.1, e1, vp_cell_q, fr_L]
          congr 2
          funext q
          rw [fr_R]
          rfl
      split at h
      next hq0 =>
        rcases hk with ⟨-, hw⟩ | h16
        · dsimp only at hw
          rw [hq0] at hw
          exact g 15 4 "KnotNames$Camp" (by omega) (hSt.1 _ (List.mem_of_getElem? hw) rfl args) hSt.2.2.2.2.2.2.2.1 rfl h
        · dsimp only at h16
          omega
      next hq4 =>
        rcases hk with ⟨-, hw⟩ | h16
        · dsimp only at hw
          rw [hq4] at hw
          exact g 14 3 "KnotNames$Row" (by omega) (hSt.1 _ (List.mem_of_getElem? hw) rfl args) hSt.2.2.2.2.2.2.1 rfl h
        · dsimp only at h16
          omega
      next => cases h
    next => cases h
theorem gr_outer (c : ClassId) (N h0 : Nat) : ∀ i : Nat, Jvm.Free.Multi.outerC c N h0 i = arrV c N (fun j => va_rf (if j < i then some (h0 + 1 + j) else none))
  | 0 => by
    show ({ cls := c, slots := Array.replicate N .null, vm := .none } : Cell) = _
    rw [arrV_new]
    refine congrArg (arrV c N) (funext fun j => ?_)
    simp [va_rf]
  | i + 1 => by
    show (Jvm.Free.Multi.outerC c N h0 i).setSlot i (.ref (h0 + 1 + i)) = _
    rw [gr_outer c N h0 i, arrV_store]
    refine congrArg (arrV c N) (funext fun j => ?_)
    by_cases e : j = i
    · subst e
      simp [updV, va_rf]
    · by_cases h : j < i
      · simp [updV, e, h, Nat.lt_succ_of_lt h]
      · simp [updV, e, h, show ¬ j < i + 1 by omega]
set_option maxHeartbeats 4000000 in
theorem st_mna {n0' dm : Nat} {pc : Nat} {lv : LV} {st : List Value} {M : Mem} {K : Nat → LV → List Value → Mem → Option (Option Value × Mem)} {res : Option Value × Mem} (cx : Cx w p R s m args meth c cc o nL n0 s0 nT sT ini) (dg : decode cc pc = .ok (.multianewarray n0' dm, 4))
    (KK : ∀ pc' lv' st' M', K pc' lv' st' M' = some res → (mN M' ≤ nT ∧ mS M' ≤ sT) ∧ Gd w p l e R s m args below meth c nL n0 s0 Q pc' lv' st' M') (h : stH none K o ini pc lv st M (.multianewarray n0' dm) = some res) : Gd w p l e R s m args below meth c nL n0 s0 Q pc lv st M := by
  obtain ⟨hx, hb, hml, hown, hSt, hold, hsz, hRc, hRs, hin⟩ := cx
  intro H locs ls hH h1 h2 hl hls
  have hK := hSt.2.1
  obtain ⟨⟨ho, hn', hdm⟩, h⟩ := if_s h
  subst ho
  subst hn'
  subst hdm
  obtain ⟨n, k, r, rfl, h3⟩ := pII_s h
  clear h
  obtain ⟨⟨hlim, ⟨hn0, hn1⟩, ⟨hk0, hk1⟩⟩, h⟩ := if_s h3
  obtain ⟨⟨b1, b2⟩, hG⟩ := KK _ _ _ _ h
  obtain ⟨gN, gS, gC, gL, gI, gJ, gR⟩ := grid_f M n.toNatClampNeg k.toNatClampNeg
  rw [gN] at b1
  rw [gS] at b2
  intro T hT X
  have hmul : k.toNatClampNeg * componentBytes FieldType.int ≤ 1000 * 4 := Nat.mul_le_mul hk1 (by decide)
  obtain ⟨vm₁, cA, comp, -, fA, fC, hO, -, X', step⟩ := X.multianewarray2F hx hown (index := 67) (ty := .int) (hSt.1 _ (List.mem_of_getElem? mnaW) rfl args) (va_AOA.use hSt.2.2.2.2.2.2.2.2) (hSt.1 _ (List.mem_of_getElem? aclW.1) rfl args) (g := F0 m pc ls (.int k :: .int n :: r.map (mv w))) rfl (by rw [hb]; exact dg) rfl hn0 hk0 (by omega) (by omega) (by omega) rfl rfl (by omega) (by omega)
  have f0 : s.vm.findClass ("[" ++ FieldType.int.toString) = some (wA w 10) := (hK.2 0 _ rfl).2
  have f5 : s.vm.findClass ("[" ++ (FieldType.array .int).toString) = some (wA w 16) := (hK.2 5 _ rfl).2
  have ec : wA w 10 = comp := Option.some.inj (f0.symm.trans fC)
  have eA : wA w 16 = cA := Option.some.inj (f5.symm.trans fA)
  subst ec
  subst eA
  generalize hF : Jvm.Free.Multi.fill (T.setVm vm₁) (wA w 16) (wA w 10) n.toNatClampNeg k.toNatClampNeg (defaultValue .int) n.toNatClampNeg = F at X' step
  have hTh : (T.setVm vm₁).heap = H := hT
  obtain ⟨z1, z2, -, -⟩ := Jvm.Free.Multi.fill_facts (T.setVm vm₁) (wA w 16) (wA w 10) n.toNatClampNeg k.toNatClampNeg (defaultValue .int) n.toNatClampNeg
  rw [hF, hTh] at z1 z2
  have hfo : ∀ x : Nat, x < H.size → F.heap[x]? = H[x]? := fun x hx => by
    have := Jvm.Free.Multi.fill_old (T.setVm vm₁) (wA w 16) (wA w 10) n.toNatClampNeg k.toNatClampNeg (defaultValue .int) (a := x) (by rw [hTh]; exact hx) n.toNatClampNeg
    rw [hF, hTh] at this
    exact this
  have hrow : ∀ j : Nat, j < n.toNatClampNeg → F.heap[H.size + 1 + j]? = some (arrV (wA w 10) k.toNatClampNeg (fun _ => .int 0)) := fun j hj => by
    have := Jvm.Free.Multi.fill_inner (T.setVm vm₁) (wA w 16) (wA w 10) n.toNatClampNeg k.toNatClampNeg (defaultValue .int) n.toNatClampNeg j hj
    rw [hF, hTh] at this
    rw [this, ← arrV_new]
    rfl
  rw [gr_outer] at z2
  have hR0 := rows_C n.toNatClampNeg k.toNatClampNeg (fresh M 16 n.toNatClampNeg n.toNatClampNeg)
  have hN1 : mN (fresh M 16 n.toNatClampNeg n.toNatClampNeg) = mN M + 1 := rfl
  rw [hN1] at hR0
  obtain ⟨q1, q2, q3, q4, q5, q6, q7, q8, q9⟩ := id hH
  have fne : ∀ b, b ≠ mN M → mC (fresh M 16 n.toNatClampNeg n.toNatClampNeg) b = mC M b ∧ mL (fresh M 16 n.toNatClampNeg n.toNatClampNeg) b = mL M b ∧ mI (fresh M 16 n.toNatClampNeg n.toNatClampNeg) b = mI M b ∧ mJ (fresh M 16 n.toNatClampNeg n.toNatClampNeg) b = mJ M b ∧ mR (fresh M 16 n.toNatClampNeg n.toNatClampNeg) b = mR M b := by
    intro b hb
    refine ⟨?_, ?_, ?_, ?_, ?_⟩
    · show va_up _ _ _ _ = _; unfold va_up; rw [if_neg hb]
    · show va_up _ _ _ _ = _; unfold va_up; rw [if_neg hb]
    · funext j; show (if _ then _ else _) = _; rw [if_neg hb]
    · funext j; show (if _ then _ else _) = _; rw [if_neg hb]
    · funext j; show (if _ then _ else _) = _; rw [if_neg hb]
  -- what the grid is at each address
  have out : ∀ b, ¬ (mN M ≤ b ∧ b < mN M + 1 + n.toNatClampNeg) → mC (grid M n.toNatClampNeg k.toNatClampNeg) b = mC M b ∧ mL (grid M n.toNatClampNeg k.toNatClampNeg) b = mL M b ∧ mI (grid M n.toNatClampNeg k.toNatClampNeg) b = mI M b ∧ mJ (grid M n.toNatClampNeg k.toNatClampNeg) b = mJ M b ∧ mR (grid M n.toNatClampNeg k.toNatClampNeg) b = mR M b := by
    intro b hb
    obtain ⟨r1, r2, r3, r4, r5⟩ := (hR0 b).2 (by omega)
    obtain ⟨u1, u2, u3, u4, u5⟩ := fne b (by omega)
    refine ⟨by rw [gC, r1, u1], by rw [gL, r2, u2], by rw [gI, r3, u3], by rw [gJ, r4, u4], ?_⟩
    rw [gR]
    funext j
    show (if _ then _ else _) = _
    rw [if_neg (fun q => by omega), r5, u5]
  have inr : ∀ b, mN M + 1 ≤ b ∧ b < mN M + 1 + n.toNatClampNeg → mC (grid M n.toNatClampNeg k.toNatClampNeg) b = 10 ∧ mL (grid M n.toNatClampNeg k.toNatClampNeg) b = k.toNatClampNeg ∧ (∀ j, mI (grid M n.toNatClampNeg k.toNatClampNeg) b j = 0) := by
    intro b hb
    obtain ⟨r1, r2, r3, r4, r5⟩ := (hR0 b).1 hb
    exact ⟨by rw [gC, r1], by rw [gL, r2], fun j => by rw [gI, r3]⟩
  have onn : mC (grid M n.toNatClampNeg k.toNatClampNeg) (mN M) = 16 ∧ mL (grid M n.toNatClampNeg k.toNatClampNeg) (mN M) = n.toNatClampNeg ∧ ∀ j, j < n.toNatClampNeg → mR (grid M n.toNatClampNeg k.toNatClampNeg) (mN M) j = mN M + 1 + j := by
    obtain ⟨r1, r2, r3, r4, r5⟩ := (hR0 (mN M)).2 (by omega)
    refine ⟨by rw [gC, r1, fr_C], by rw [gL, r2, fr_L], fun j hj => ?_⟩
    rw [gR]
    show (if _ then _ else _) = _
    rw [if_pos ⟨rfl, hj⟩]
  have hHR : HR w (grid M n.toNatClampNeg k.toNatClampNeg) F.heap := by
    refine ⟨by rw [z1, gN, q1]; omega, fun q hq => by rw [hfo q (by omega)]; exact q2 q hq, fun b hb => ?_, by rw [gN]; omega, ?_, ?_, ?_, ?_, ?_⟩
    · rw [gN] at hb
      by_cases e0 : b = mN M
      · subst e0
        rw [cellRs onn.1 (by omega), onn.2.1]
        show F.heap[wB w + mN M]? = some (vp_cell _ _)
        rw [← q1, z2, vp_cell_q]
        congr 1
        unfold arrV
        congr 2
        funext j
        have hj := j.isLt
        show va_rf (if _ then _ else _) = va_rf (rfO w (mR (grid M n.toNatClampNeg k.toNatClampNeg) (mN M) j.val))
        rw [if_pos hj, onn.2.2 _ hj]
        unfold rfO
        rw [if_neg (by omega), rho_lo (by omega), q1]
        congr 2
        omega
      · by_cases e1 : b < mN M
        · obtain ⟨u1, u2, u3, u4, u5⟩ := out b (by omega)
          have hc : cellE w (grid M n.toNatClampNeg k.toNatClampNeg) b = cellE w M b := by
            unfold cellE flds
            have hfv : fV w (grid M n.toNatClampNeg k.toNatClampNeg) b (mC M b) = fV w M b (mC M b) := by
              funext j
              unfold fV
              rw [u3, u4, u5]
            rw [u1, u2, u3, u5, hfv]
          rw [hc]
          exact (q3 b e1).kept (hfo _ (show wB w + b < H.size by omega))
        · obtain ⟨u1, u2, u3⟩ := inr b (by omega)
          rw [cellIs u1 (by omega), u2]
          show F.heap[wB w + b]? = some (vp_cell _ _)
          have := hrow (b - (mN M + 1)) (by omega)
          rw [show H.size + 1 + (b - (mN M + 1)) = wB w + b by omega] at this
          rw [this, vp_cell_i]
          congr 2
          funext j
          rw [u3]
    · intro b hb
      rw [gN]
      by_cases e0 : mN M ≤ b ∧ b < mN M + 1 + n.toNatClampNeg
      · omega
      · rw [(out b e0).1] at hb
        have := q5 b hb
        omega
    · intro b hb
      rw [gN] at hb
      by_cases e0 : b < mN M
      · rw [(out b (by omega)).1]
        exact q6 b e0
      · by_cases e1 : b = mN M
        · rw [e1, onn.1]; unfold old; omega
        · rw [(inr b (by omega)).1]; unfold old; omega
    all_goals
      intro b hb
      have e0 : ¬ (mN M ≤ b ∧ b < mN M + 1 + n.toNatClampNeg) := by
        intro q
        by_cases e1 : b = mN M
        · rw [e1, onn.1] at hb; omega
        · rw [(inr b (by omega)).1] at hb; omega
      obtain ⟨u1, u2, u3, u4, u5⟩ := out b e0
      rw [u1] at hb
    · rw [u2, u3]; exact q7 b hb
    · rw [u2, u3]; exact q8 b hb
    · rw [u5, u3]; exact q9 b hb
  have hW := hG F.heap locs ls hHR (by rw [gN]; omega) (by rw [gS]; omega) hl hls
  have hW := W.cs (cells := mN M - n0 + 1 + n.toNatClampNeg) (slots := mS M - s0 + n.toNatClampNeg + n.toNatClampNeg * k.toNatClampNeg) (by rw [gN]; omega) (by rw [gS]; omega) hW
  obtain ⟨t, a1, c1⟩ := hW F rfl X'
  refine ⟨t, step t ?_, c1⟩
  have ee : mv w (.ref (mN M)) = .ref T.heap.size := by show Value.ref (rho w (mN M)) = _; rw [rho_lo (by omega), hT, hH.1]
  rw [← ee]
  exact a1
end G
