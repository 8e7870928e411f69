def isRf (t : FieldType) : Bool := match t with
  | .object _ => true
  | .array _ => true
  | _ => false
def tyOK (g : Nat) (t : FieldType) : Prop := (g = 0 ∧ t = .int) ∨ (g = 1 ∧ t = .long) ∨ (g = 2 ∧ isRf t = true)
def ClsOK (ci : Nat) (C : String) (T : u_T) (N : Nat) (ty : Nat → FieldType) : Prop :=
  vwCl[ci]? = some (C, T, N) ∧ (∀ x ∈ u_ws C T N, x ∈ lw_tbl ∧ nGood x = true) ∧ (∀ k, k < N → parseFieldDescriptor (T k).2.2.1 = some (ty k)) ∧ (∀ a, a < N → ∀ b, b < N → a ≠ b → (T a).2.1 ≠ (T b).2.1) ∧ N = nf ci ∧ (∀ k, k < N → tyOK (fT ci k) (ty k)) ∧
  (∀ k, k < N → (T k).2.2.2 = fF ci k) ∧ (∀ k, k < N → (T k).1 = nm ci) ∧ C = nm ci ∧ Cond.instantiable C N ∈ lw_tbl ∧ Cond.initialized C ∈ lw_tbl
set_option maxRecDepth 100000 in
theorem clsI_0 : ∀ x ∈ u_ws RX0 TX0 3, x ∈ lw_tbl := by decide +kernel
set_option maxRecDepth 100000 in
theorem cls_0 : ClsOK 0 RX0 TX0 3 tyX0 := by
  refine ⟨rfl, fun x hx => ⟨clsI_0 x hx, ?_⟩, tyX0_ok, nmX0, by decide +kernel, ?_, by decide +kernel, by decide +kernel, by decide +kernel, by decide +kernel, by decide +kernel⟩
  · exact (List.all_eq_true (l := u_ws RX0 TX0 3) (p := nGood)).mp (by decide +kernel) x hx
  · unfold tyOK
    decide +kernel
set_option maxRecDepth 100000 in
theorem clsI_1 : ∀ x ∈ u_ws RX1 TX1 7, x ∈ lw_tbl := by decide +kernel
set_option maxRecDepth 100000 in
theorem cls_1 : ClsOK 1 RX1 TX1 7 tyX1 := by
  refine ⟨rfl, fun x hx => ⟨clsI_1 x hx, ?_⟩, tyX1_ok, nmX1, by decide +kernel, ?_, by decide +kernel, by decide +kernel, by decide +kernel, by decide +kernel, by decide +kernel⟩
  · exact (List.all_eq_true (l := u_ws RX1 TX1 7) (p := nGood)).mp (by decide +kernel) x hx
  · unfold tyOK
    decide +kernel
set_option maxRecDepth 100000 in
theorem clsI_2 : ∀ x ∈ u_ws RX2 TX2 3, x ∈ lw_tbl := by decide +kernel
set_option maxRecDepth 100000 in
theorem cls_2 : ClsOK 2 RX2 TX2 3 tyX2 := by
  refine ⟨rfl, fun x hx => ⟨clsI_2 x hx, ?_⟩, tyX2_ok, nmX2, by decide +kernel, ?_, by decide +kernel, by decide +kernel, by decide +kernel, by decide +kernel, by decide +kernel⟩
  · exact (List.all_eq_true (l := u_ws RX2 TX2 3) (p := nGood)).mp (by decide +kernel) x hx
  · unfold tyOK
    decide +kernel
set_option maxRecDepth 100000 in
theorem clsI_3 : ∀ x ∈ u_ws RX3 TX3 3, x ∈ lw_tbl := by decide +kernel
set_option maxRecDepth 100000 in
theorem cls_3 : ClsOK 3 RX3 TX3 3 tyX3 := by
  refine ⟨rfl, fun x hx => ⟨clsI_3 x hx, ?_⟩, tyX3_ok, nmX3, by decide +kernel, ?_, by decide +kernel, by decide +kernel, by decide +kernel, by decide +kernel, by decide +kernel⟩
  · exact (List.all_eq_true (l := u_ws RX3 TX3 3) (p := nGood)).mp (by decide +kernel) x hx
  · unfold tyOK
    decide +kernel
set_option maxRecDepth 100000 in
theorem clsI_4 : ∀ x ∈ u_ws RX4 TX4 2, x ∈ lw_tbl := by decide +kernel
set_option maxRecDepth 100000 in
theorem cls_4 : ClsOK 4 RX4 TX4 2 tyX4 := by
  refine ⟨rfl, fun x hx => ⟨clsI_4 x hx, ?_⟩, tyX4_ok, nmX4, by decide +kernel, ?_, by decide +kernel, by decide +kernel, by decide +kernel, by decide +kernel, by decide +kernel⟩
  · exact (List.all_eq_true (l := u_ws RX4 TX4 2) (p := nGood)).mp (by decide +kernel) x hx
  · unfold tyOK
    decide +kernel
set_option maxRecDepth 100000 in
theorem clsI_5 : ∀ x ∈ u_ws RX5 TX5 2, x ∈ lw_tbl := by decide +kernel
set_option maxRecDepth 100000 in
theorem cls_5 : ClsOK 5 RX5 TX5 2 tyX5 := by
  refine ⟨rfl, fun x hx => ⟨clsI_5 x hx, ?_⟩, tyX5_ok, nmX5, by decide +kernel, ?_, by decide +kernel, by decide +kernel, by decide +kernel, by decide +kernel, by decide +kernel⟩
  · exact (List.all_eq_true (l := u_ws RX5 TX5 2) (p := nGood)).mp (by decide +kernel) x hx
  · unfold tyOK
    decide +kernel
set_option maxRecDepth 100000 in
theorem clsI_6 : ∀ x ∈ u_ws RX6 TX6 12, x ∈ lw_tbl := by decide +kernel
set_option maxRecDepth 100000 in
theorem cls_6 : ClsOK 6 RX6 TX6 12 tyX6 := by
  refine ⟨rfl, fun x hx => ⟨clsI_6 x hx, ?_⟩, tyX6_ok, nmX6, by decide +kernel, ?_, by decide +kernel, by decide +kernel, by decide +kernel, by decide +kernel, by decide +kernel⟩
  · exact (List.all_eq_true (l := u_ws RX6 TX6 12) (p := nGood)).mp (by decide +kernel) x hx
  · unfold tyOK
    decide +kernel
set_option maxRecDepth 100000 in
theorem clsI_7 : ∀ x ∈ u_ws RX7 TX7 20, x ∈ lw_tbl := by decide +kernel
set_option maxRecDepth 100000 in
theorem cls_7 : ClsOK 7 RX7 TX7 20 tyX7 := by
  refine ⟨rfl, fun x hx => ⟨clsI_7 x hx, ?_⟩, tyX7_ok, nmX7, by decide +kernel, ?_, by decide +kernel, by decide +kernel, by decide +kernel, by decide +kernel, by decide +kernel⟩
  · exact (List.all_eq_true (l := u_ws RX7 TX7 20) (p := nGood)).mp (by decide +kernel) x hx
  · unfold tyOK
    decide +kernel
theorem cls_ok {ci : Nat} (h : ci < 8) : ∃ (C : String) (T : u_T) (N : Nat) (ty : Nat → FieldType), ClsOK ci C T N ty := by
  rcases (show ci = 0 ∨ ci = 1 ∨ ci = 2 ∨ ci = 3 ∨ ci = 4 ∨ ci = 5 ∨ ci = 6 ∨ ci = 7 by omega) with rfl | rfl | rfl | rfl | rfl | rfl | rfl | rfl
  · exact ⟨_, _, _, _, cls_0⟩
  · exact ⟨_, _, _, _, cls_1⟩
  · exact ⟨_, _, _, _, cls_2⟩
  · exact ⟨_, _, _, _, cls_3⟩
  · exact ⟨_, _, _, _, cls_4⟩
  · exact ⟨_, _, _, _, cls_5⟩
  · exact ⟨_, _, _, _, cls_6⟩
  · exact ⟨_, _, _, _, cls_7⟩
def Tn (ci k : Nat) : String × String × String × Bool := (vwCl.getD ci (RX0, TX0, 3)).2.1 k
def fOK (o : Nat) (q : Nat × Nat × Nat × Nat × Nat) : Prop := (q.2.1 = 20 ∧ q.2.2.2.1 = 0 ∧ ((q.2.2.1 = 0 ∧ lw_tbl[q.2.2.2.2]? = some (.fieldLink (nm o) q.1 "java/lang/String" "value" "[B")) ∨ (q.2.2.1 = 1 ∧ lw_tbl[q.2.2.2.2]? = some (.fieldLink (nm o) q.1 "java/lang/String" "coder" "B")))) ∨
  (q.2.1 < 8 ∧ q.2.2.1 < nf q.2.1 ∧ ((q.2.2.2.1 = 0 ∧ lw_tbl[q.2.2.2.2]? = some (.fieldLink (nm o) q.1 (Tn q.2.1 q.2.2.1).1 (Tn q.2.1 q.2.2.1).2.1 (Tn q.2.1 q.2.2.1).2.2.1)) ∨ (q.2.2.2.1 = 1 ∧ o ≠ q.2.1 ∧ lw_tbl[q.2.2.2.2]? = some (.fieldLinkNest (nm o) q.1 (Tn q.2.1 q.2.2.1).1 (Tn q.2.1 q.2.2.1).2.1 (Tn q.2.1 q.2.2.1).2.2.1 "KnotNames"))))
set_option maxRecDepth 100000 in
theorem fR_ok0 : ∀ o, o < 14 → ∀ q ∈ fRs.getD o [], fOK o q := by
  unfold fOK
  decide +kernel
theorem fR_ok {o : Nat} {q : Nat × Nat × Nat × Nat × Nat} (h : q ∈ fRs.getD o []) : fOK o q := by
  by_cases ho : o < 14
  · exact fR_ok0 o ho q h
  · have : fRs.getD o [] = [] := by
      rw [List.getD_eq_getElem?_getD, List.getElem?_eq_none (by show fRs.length ≤ o; exact Nat.le_trans (by decide) (Nat.not_lt.mp ho))]
      rfl
    rw [this] at h
    cases h
set_option maxRecDepth 100000 in
theorem kR_ok : ∀ q ∈ kR, (q.2.2.1 < 8 ∧ lw_tbl[q.2.2.2]? = some (.classLink (nm q.1) q.2.1 (nm q.2.2.1))) ∨ q.2.2.1 = 16 := by decide +kernel
theorem flds_len (w : WP) (M : Mem) (a ci : Nat) : (flds w M a ci).length = nf ci := by unfold flds; rw [List.length_map, List.length_range]
theorem flds_get (w : WP) (M : Mem) (a : Nat) {ci k : Nat} (h : k < nf ci) : (flds w M a ci)[k]? = some (fV w M a ci k) := by
  unfold flds
  rw [List.getElem?_map, List.getElem?_range h]
  rfl
theorem flds_set {w : WP} {M M' : Mem} {a ci k : Nat} {v : Value} (hk : k < nf ci) (h1 : fV w M' a ci k = v) (h2 : ∀ j, j ≠ k → fV w M' a ci j = fV w M a ci j) : (flds w M a ci).set k v = flds w M' a ci := by
  apply List.ext_getElem?
  intro j
  by_cases hj : j < nf ci
  · rw [flds_get w M' a hj]
    by_cases e : j = k
    · subst e
      rw [List.getElem?_set_self (by rw [flds_len]; exact hj), h1]
    · rw [List.getElem?_set_ne (Ne.symm e), flds_get w M a hj, h2 j e]
  · rw [List.getElem?_eq_none (by rw [List.length_set, flds_len]; omega), List.getElem?_eq_none (by rw [flds_len]; omega)]
theorem St_ws {w : WP} {s : State} {args : Array Value} {ws : List Cond} (h : St w s) (hi : ∀ x ∈ ws, x ∈ lw_tbl ∧ nGood x = true) : ∀ x ∈ ws, x.before args s = true := fun x hx => h.1 x (hi x hx).1 (hi x hx).2 args
section HW
variable {p : Program} {l : Launch} {e : Env} {R : Room} {s : State} {m : MethodId} {args : Array Value} {below : List Frame} {meth : Method} {c : Code} {H : Heap} {locs : List Loc} {cells slots : Nat} {Q : State → Prop}
variable {cc : ByteArray} {pc : Nat} {ls : Array Slot} {rest : List Value} {D : va_G} {cl : List vw_C} {a : Nat} {tys : List (ClassId × FieldType)}
/-- a field is put: the one cell changes -/
theorem h_put (hexec : p.tables.exec = Jvm.exec) (hb : c.code = cc) {own C : String} {T : u_T} {N ci index : Nat} {Ts : List Cond} (hts : ∀ w ∈ Ts, w.before args s = true) (hin : ∀ w ∈ u_ws C T N, w ∈ Ts) (ty0 : Nat → FieldType) (hty : ∀ k, k < N → parseFieldDescriptor (T k).2.2.1 = some (ty0 k)) (hnm : ∀ a, a < N → ∀ b, b < N → a ≠ b → (T a).2.1 ≠ (T b).2.1) (hown : s.vm.findClass own = some m.cls) (hK : va_K D cl tys s) {fs : List Value} (hP : va_at D cl (a, .inr (ci, fs)) H) (hc : cl[ci]? = some (C, T, N)) (k : Nat) (hk : k < N)
    (hlink : ((T k).2.2.2 = false ∧ (Cond.fieldLink own index (T k).1 (T k).2.1 (T k).2.2.1).before args s = true) ∨ ((T k).2.2.2 = false ∧ ∃ host, (Cond.fieldLinkNest own index (T k).1 (T k).2.1 (T k).2.2.1 host).before args s = true) ∨ ((T k).2.2.2 = true ∧ meth.name = "<init>" ∧ (T k).1 = own ∧ (Cond.fieldLink own index (T k).1 (T k).2.1 (T k).2.2.1).before args s = true))
    {v : Value} (hn : narrow (ty0 k) v = v) (hfit : fits (ty0 k) v = true) (hl : k < fs.length)
    (hdg : decode cc pc = .ok (.putfield index, 3)) (kk : ∀ (H1 : Heap) (x : Nat), va_at D cl (a, .inr (ci, fs.set k v)) H1 → H1.size = H.size → (∀ q, q ≠ a → H1[q]? = H[q]?) → W p l e R s m args below meth c H1 (locs ++ [⟨a, x⟩]) cells slots Q (F0 m (pc + 3) ls rest)) : W p l e R s m args below meth c H locs cells slots Q (F0 m pc ls (v :: .ref a :: rest)) := by
  have hap := va_apart (own := own) hts hin ty0 hty hnm hK hc
  obtain ⟨r, h1, cell, q1, q2, q3, q4⟩ := hP
  have hr : r = (C, T, N) := Option.some.inj (h1.symm.trans hc)
  subst hr
  obtain ⟨hS, hfc, kC, hkC, hkind⟩ := hK.1 ci _ hc
  obtain ⟨cf, kf, fi, f, hi, hsl⟩ := hS k hk
  have hlay := hts _ (hin _ (u_in_lay hk))
  unfold u_lay at hlay
  have hst := (u_facts hfc hkC (u_lays hts hin hk) hi).1
  have hd := hty k hk
  have fin : ∀ H' : Heap, H'[a]? = some (cell.setSlot f.slot v) → H'.size = H.size → (∀ q, q ≠ a → H'[q]? = H[q]?) → W p l e R s m args below meth c H' (locs ++ [⟨a, f.slot⟩]) cells slots Q (F0 m (pc + 3) ls rest) := by
    intro H' e1 e2 e3
    rw [hsl] at e1
    exact kk H' f.slot ⟨_, hc, t_OB.to (V := updV (vp_V fs) k v) ⟨_, e1, q2, q3, t_set q4 hap hk v⟩ (fun j _ => vp_updV_set hl v j)⟩ e2 e3
  rcases hlink with ⟨hf, hlink⟩ | ⟨hf, host, hlink⟩ | ⟨hf, hin2, hdecl, hlink⟩
  · rw [if_neg (by rw [hf]; decide)] at hlay
    have h6 := u_store hfc hkC hkind hlay hi hd hn hfit
    exact W.putK hexec hb (f := f) ⟨hown, hlink, ⟨_, _, _, hi⟩, hst⟩ (by rw [q2]; exact h6) q1 q3 (by rw [hsl]; exact k2_hasslot (q4 k hk)) rfl rfl hdg fin
  · rw [if_neg (by rw [hf]; decide)] at hlay
    have h6 := u_store hfc hkC hkind hlay hi hd hn hfit
    exact va_WputK hexec hb (f := f) hown hlink hi hst (by rw [q2]; exact h6) q1 q3 (by rw [hsl]; exact k2_hasslot (q4 k hk)) rfl rfl hdg fin
  · rw [if_pos hf] at hlay
    have hcf : m.cls = cf := by
      obtain ⟨_, _, c', _, _, _, -, -, hf', -, -, -, hown2, -⟩ := Cond.laysFinal_spec hlay
      have e1 : c' = cf := by have := hi.symm.trans hf'; simp at this; exact this.1.symm
      rw [hdecl] at hown2
      rw [← e1]; exact Option.some.inj (hown.symm.trans hown2)
    have h6 := u_fits hfc hkC hkind (Or.inr hlay) hi hd hn hfit
    exact W.putFinK hexec hb hown hlink hi hst hcf hin2 (by rw [q2]; exact h6) q1 q3 (by rw [hsl]; exact k2_hasslot (q4 k hk)) rfl rfl hdg fin
end HW
