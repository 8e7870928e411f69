/-! ===== lives: the class seeks ===== -/
def okB (ns : List (List Nat)) (G s : List Nat) : Bool := decide (jn ns s = G)
theorem jn_Tg (ns : List (List Nat)) : ∀ (s a : List Nat), Tg a → Tg (s.foldl (fun a h => tieAll a (nmO ns h)) a) := by
  intro s
  induction s with
  | nil => intro a h; exact h
  | cons x s ih => intro a h; exact ih _ (Tg_tieAll _ _ h)
theorem jn_tg (ns : List (List Nat)) (s : List Nat) : Tg (jn ns s) := jn_Tg ns s [] Tg_nil
theorem jn_Ln {ns : List (List Nat)} (hl : ∀ h, h < ns.length → (nmO ns h).length ≤ 12) : ∀ (s a : List Nat), (∀ x ∈ s, x < ns.length) → (s.foldl (fun a h => tieAll a (nmO ns h)) a).length ≤ a.length + 12 * s.length := by
  intro s
  induction s with
  | nil => intro a _; exact Nat.le_refl _
  | cons x s ih =>
    intro a hx
    have h1 := ih (tieAll a (nmO ns x)) (fun y hy => hx y (List.mem_cons_of_mem _ hy))
    have h2 := tieAll_len (nmO ns x) a
    have h3 := hl x (hx x List.mem_cons_self)
    rw [List.foldl_cons, List.length_cons]
    omega
theorem jn_len {ns : List (List Nat)} (hl : ∀ h, h < ns.length → (nmO ns h).length ≤ 12) {s : List Nat} (hx : ∀ x ∈ s, x < ns.length) : (jn ns s).length ≤ 12 * s.length := by
  have := jn_Ln hl s [] hx
  rw [List.length_nil, Nat.zero_add] at this
  exact this
theorem and_F : ∀ t : Fin 64, ∀ h : Fin 6, (nI t.1 &&& ((1 : Int32) <<< (nI h.1 &&& 31)) = 0 ↔ t.1.testBit h.1 = false) := by decide +kernel
def SkR (I : Nat → Nat → Int32) (ns : List (List Nat)) (ct G pre : List Nat) (W : List (List Nat)) : Prop := Cl I 3 ns ct ∧ Rl I 184 G ∧ Rl I 186 (jn ns pre) ∧ (∀ i, i < pre.length → I 188 i = nI (pre.getD i 0)) ∧ Lv I W ∧ W.length < 100000 ∧ ∀ s ∈ W, s.length ≤ 6
section Sk
variable {d L : Nat} {J : Nat → Nat → Int64} {ns : List (List Nat)} {ct G : List Nat}
theorem mem_getD {s : List Nat} {i : Nat} (h : i < s.length) : s.getD i 0 ∈ s := by
  rw [List.getD_eq_getElem?_getD, List.getElem?_eq_getElem h]
  exact List.getElem_mem h
theorem c_seek (hG : G.length ≤ 12) : ∀ (f : Nat) (pre : List Nat) (t : Nat) (W : List (List Nat)) (I : Nat → Nat → Int32) (Q : Mem → Prop), pre.length + f = 6 → (∀ x ∈ pre, x < ns.length) → t < 64 → (∀ j, j < 6 → t.testBit j = decide (j ∈ pre)) → SkR I ns ct G pre W → W.length + (vis ns.length f pre).length ≤ 90000 → (∀ I', SkR I' ns ct G pre (W ++ (vis ns.length f pre).filter (okB ns G)) → FrR 183 191 I I' → Q (mm L I' J)) →
    WV (d + f + 3) i_Lives_seek [.ref 183, .ref 3, .int (nI pre.length), .int (nI t)] (mm L I J) Q := by
  intro f
  induction f with
  | zero =>
    intro pre t W I Q hp hx ht hb hS hW hQ
    show WV (d + 2 + 1) i_Lives_seek [.ref 183, .ref 3, .int (nI pre.length), .int (nI t)] (mm L I J) Q
    have e : ¬ nI pre.length < nI 6 := nI_nlt (by omega) (by omega)
    have e : ¬ nI pre.length < 6 := e
    rw [E_Lives_seek, if_neg e]
    have := hQ I
    rw [vis, List.filter_nil, List.append_nil] at this
    exact this hS (FrR_rf _ _ _)
  | succ f ih =>
    intro pre t W I Q hp hx ht hb hS hW hQ
    show WV (d + f + 3 + 1) i_Lives_seek [.ref 183, .ref 3, .int (nI pre.length), .int (nI t)] (mm L I J) Q
    have n6 := hS.1.2.1
    have e : nI pre.length < nI 6 := nI_lt (by omega) (by omega)
    have e : nI pre.length < 6 := e
    rw [E_Lives_seek, if_pos e]
    have loop : ∀ (m h : Nat) (W : List (List Nat)) (I : Nat → Nat → Int32), h + m = ns.length → SkR I ns ct G pre W → W.length + ((List.range' h m).flatMap (fun h => if h ∈ pre then [] else (pre ++ [h]) :: vis ns.length f (pre ++ [h]))).length ≤ 90000 → (∀ I', SkR I' ns ct G pre (W ++ ((List.range' h m).flatMap (fun h => if h ∈ pre then [] else (pre ++ [h]) :: vis ns.length f (pre ++ [h]))).filter (okB ns G)) → FrR 183 191 I I' → Q (mm L I' J)) → Wn (d + f + 3 + 1) i_Lives_seek 10 [(0, .ref 183), (1, .ref 3), (2, .int (nI pre.length)), (3, .int (nI t)), (4, .int (nI h))] [] (mm L I J) (QV Q) := by
      intro m
      induction m with
      | zero =>
        intro h W I hh hS hW hQ
        rw [H_Lives_seek_10]
        simp only [mm_C, mm_R, mm_L, mm_I, mm_sI, CL183, CL184, CL186, CL188, CL189, CL190, CL3, RR183_0, RR183_1, RR183_2, RR183_3, RR183_4, n184, n186, n188, n189, n190, LN188, LN189, LN190, ↓reduceIte, hS.1.1]
        rw [if_neg (nI_nlt (by omega) (by omega))]
        rw [List.range'_zero, List.flatMap_nil, List.filter_nil, List.append_nil] at hQ
        exact hQ I hS (FrR_rf _ _ _)
      | succ m ihm =>
        intro h W I hh hS hW hQ
        obtain ⟨s1, s2, s3, s4, s5, s6, s7⟩ := id hS
        have w := w3 (show h < 6 by omega)
        have lh := l3 s1 (show h < ns.length by omega)
        have jl := jn_len (ns := ns) (fun j hj => l3 s1 hj) hx
        have af := and_F ⟨t, ht⟩ ⟨h, by omega⟩
        have af : nI t &&& ((1 : Int32) <<< (nI h &&& 31)) = 0 ↔ t.testBit h = false := af
        have tb := hb h (by omega)
        rw [List.range'_succ, List.flatMap_cons] at hW hQ
        rw [List.filter_append] at hQ
        rw [List.length_append] at hW
        rw [H_Lives_seek_10]
        simp only [mm_C, mm_R, mm_L, mm_I, mm_sI, CL183, CL184, CL186, CL188, CL189, CL190, CL3, RR183_0, RR183_1, RR183_2, RR183_3, RR183_4, n184, n186, n188, n189, n190, LN188, LN189, LN190, ↓reduceIte, s1.1]
        rw [if_pos (nI_lt (by omega) (by omega)), nI_1 h, nI_1 pre.length]
        by_cases c : h ∈ pre
        · rw [if_pos c, List.filter_nil, List.nil_append] at hQ
          rw [if_pos c, List.length_nil] at hW
          rw [decide_eq_true c] at tb
          rw [if_neg (fun q => by rw [af.mp q] at tb; cases tb)]
          exact ihm (h + 1) W I (by omega) hS (by omega) hQ
        · rw [if_neg c] at hW hQ
          rw [List.length_cons] at hW
          rw [decide_eq_false c] at tb
          rw [if_pos (af.mpr tb), if_pos ⟨trivial, inb_nI (by omega) (by omega)⟩, ix_nI (by omega)]
          obtain ⟨o1, o2, o3, o4⟩ := or_F ⟨t, ht⟩ ⟨h, by omega⟩
          have o1 : nI t ||| ((1 : Int32) <<< (nI h &&& 31)) = nI (t ||| 2 ^ h) := o1
          have o2 : t ||| 2 ^ h < 64 := o2
          have px : ∀ x ∈ pre ++ [h], x < ns.length := fun x q => by
            rcases List.mem_append.mp q with q | q
            · exact hx x q
            · rw [List.mem_singleton.mp q]; omega
          have pb : ∀ j, j < 6 → (t ||| 2 ^ h).testBit j = decide (j ∈ pre ++ [h]) := fun j hj => by
            rw [Nat.testBit_or, hb j hj, Nat.testBit_two_pow]
            by_cases q : h = j
            · have mj : j ∈ pre ++ [h] := by rw [q]; simp
              rw [decide_eq_true q, decide_eq_true mj, Bool.or_true]
            · have : (j ∈ pre ++ [h]) ↔ j ∈ pre := by
                rw [List.mem_append, List.mem_singleton]
                exact ⟨fun r => r.resolve_right (fun r => q r.symm), Or.inl⟩
              rw [decide_eq_false q, Bool.or_false]
              exact decide_eq_decide.mpr this.symm
          have pl : (pre ++ [h]).length = pre.length + 1 := by rw [List.length_append, List.length_singleton]
          rw [o1]
          have rest : ∀ (I4 : Nat → Nat → Int32) (W4 : List (List Nat)), SkR I4 ns ct G (pre ++ [h]) W4 → W4.length + (vis ns.length f (pre ++ [h])).length + ((List.range' (h + 1) m).flatMap (fun h => if h ∈ pre then [] else (pre ++ [h]) :: vis ns.length f (pre ++ [h]))).length ≤ 90000 → FrR 183 191 I I4 → W4 ++ (vis ns.length f (pre ++ [h])).filter (okB ns G) = W ++ ((pre ++ [h]) :: vis ns.length f (pre ++ [h])).filter (okB ns G) →
              WV (d + f + 3) i_Lives_seek [.ref 183, .ref 3, .int (nI (pre.length + 1)), .int (nI (t ||| 2 ^ h))] (mm L I4 J) (fun M6 => (if mC M6 183 = 1 then (if (mR M6 183 1) = 999999 then False else (if mC M6 3 = 0 then (WA (d + f + 3) i_Camp_nameOf [.ref 3, .int (nI h)] M6 (fun x8 M7 => (if mC M7 (mR M6 183 1) = 4 then (WV (d + f + 3) i_Row_appendAllUndoing [.ref (mR M6 183 1), .ref x8] M7 (fun M9 => Wn (d + f + 3 + 1) i_Lives_seek 10 [(0, .ref 183), (1, .ref 3), (2, .int (nI pre.length)), (3, .int (nI t)), (4, .int (nI (h + 1)))] [] M9 (QV Q))) else False))) else False)) else False)) := by
            intro I4 W4 hS4 hW4 F4 eW
            have := ih (pre ++ [h]) (t ||| 2 ^ h) W4 I4
            rw [pl] at this
            refine this _ (by omega) px o2 pb hS4 (by omega) (fun I6 hS6 F6 => ?_)
            obtain ⟨a1, a2, a3, a4, a5, a6, a7⟩ := hS6
            rw [jn_app] at a3
            simp only [mm_C, mm_R, mm_L, mm_I, mm_sI, CL183, CL184, CL186, CL188, CL189, CL190, CL3, RR183_0, RR183_1, RR183_2, RR183_3, RR183_4, n184, n186, n188, n189, n190, LN188, LN189, LN190, ↓reduceIte]
            rw [c_name3 (by omega)]
            simp only [mm_C, mm_R, mm_L, mm_I, mm_sI, CL183, CL184, CL186, CL188, CL189, CL190, CL3, RR183_0, RR183_1, RR183_2, RR183_3, RR183_4, n184, n186, n188, n189, n190, LN188, LN189, LN190, ↓reduceIte]
            refine c_undoAll w186 w (by omega) (jn_tg ns pre) lh (by omega) a3 (r3 a1 (show h < ns.length by omega)) _ (fun I7 b1 b2 => ?_)
            have F7 : FrR 186 188 I6 I7 := FrR_1 b2 (by omega) (by omega)
            rw [eW] at a5 a6 a7
            refine ihm (h + 1) _ I7 (by omega) ⟨Cl_fr F7 (by omega) a1, Rl_fr w186 w184 (by omega) b2 a2, b1, fun i hi => ?_, Lv_fr a5 (F7 183 (by omega)) (F7 189 (by omega)) (F7 190 (by omega)), a6, a7⟩ ?_ (fun I' g1 g2 => hQ I' ?_ (FrR_tr F4 (FrR_tr F6 (FrR_tr (FrR_w F7 (by omega) (by omega)) g2))))
            · rw [F7 188 (by omega), a4 i (by omega), getD_app hi]
            · have fl := List.length_filter_le (okB ns G) ((pre ++ [h]) :: vis ns.length f (pre ++ [h]))
              rw [List.length_cons] at fl
              rw [List.length_append]
              omega
            · rw [← List.append_assoc]
              exact g1
          rw [c_name3 (by omega)]
          have F1 : FrR 188 189 I (up2 I 188 pre.length (nI h)) := FrR_u (by omega) (by omega)
          simp only [mm_C, mm_R, mm_L, mm_I, mm_sI, CL183, CL184, CL186, CL188, CL189, CL190, CL3, RR183_0, RR183_1, RR183_2, RR183_3, RR183_4, n184, n186, n188, n189, n190, LN188, LN189, LN190, ↓reduceIte]
          refine c_tieAll w186 w (by omega) (Rl_keep s3 (F1 186 (by omega)) (F1 187 (by omega))) (r3 (Cl_fr F1 (by omega) s1) (show h < ns.length by omega)) lh (by omega) _ (fun I3 b1 b2 => ?_)
          have F3 : FrR 183 191 I I3 := FrR_tr (FrR_w F1 (by omega) (by omega)) (FrR_1 b2 (by omega) (by omega))
          have G3 : Rl I3 184 G := Rl_fr w186 w184 (by omega) b2 (Rl_keep s2 (F1 184 (by omega)) (F1 185 (by omega)))
          rw [← jn_app] at b1
          have jl2 := jn_len (ns := ns) (fun j hj => l3 s1 hj) px
          rw [pl] at jl2
          have c3 : ∀ i, i < (pre ++ [h]).length → I3 188 i = nI ((pre ++ [h]).getD i 0) := fun i hi => by
            rw [pl] at hi
            rw [b2 188 (by omega) (by omega)]
            by_cases q : i = pre.length
            · rw [q, up2_same, getD_end]
            · rw [up2_other _ _ _ q, s4 i (by omega), getD_app (by omega)]
          have L3 : Lv I3 W := Lv_fr s5 (by rw [b2 183 (by omega) (by omega), F1 183 (by omega)]) (by rw [b2 189 (by omega) (by omega), F1 189 (by omega)]) (by rw [b2 190 (by omega) (by omega), F1 190 (by omega)])
          have S3 : SkR I3 ns ct G (pre ++ [h]) W := ⟨Cl_fr F3 (by omega) s1, G3, b1, c3, L3, s6, s7⟩
          simp only [mm_C, mm_R, mm_L, mm_I, mm_sI, CL183, CL184, CL186, CL188, CL189, CL190, CL3, RR183_0, RR183_1, RR183_2, RR183_3, RR183_4, n184, n186, n188, n189, n190, LN188, LN189, LN190, ↓reduceIte]
          rw [c_isLike w186 w184 b1 G3 (by omega) hG]
          by_cases k : jn ns (pre ++ [h]) = G
          · rw [decide_eq_true k, if_neg (by decide)]
            simp only [mm_C, mm_R, mm_L, mm_I, mm_sI, CL183, CL184, CL186, CL188, CL189, CL190, CL3, RR183_0, RR183_1, RR183_2, RR183_3, RR183_4, n184, n186, n188, n189, n190, LN188, LN189, LN190, ↓reduceIte]
            have nt := c_note (d := d + f + 3) (L := L) (J := J) (I := I3) (W := W) (s := pre ++ [h]) (fun i hi => by have := px _ (mem_getD hi); omega) (by omega) s6 (fun x hx => s7 x (fmo_is W x hx).1) c3 L3
            rw [pl] at nt
            refine nt _ (fun I4 q1 q2 => rest I4 (W ++ [pre ++ [h]]) ⟨Cl_fr (lo := 183) (hi := 191) (fun a qa => q2 a (by omega) (by omega) (by omega)) (by omega) S3.1, Rl_keep G3 (q2 184 (by omega) (by omega) (by omega)) (q2 185 (by omega) (by omega) (by omega)), Rl_keep b1 (q2 186 (by omega) (by omega) (by omega)) (q2 187 (by omega) (by omega) (by omega)), fun i hi => by rw [q2 188 (by omega) (by omega) (by omega)]; exact c3 i hi, q1, ?_, fun s hs => ?_⟩ ?_ (FrR_tr F3 (fun a qa => q2 a (by omega) (by omega) (by omega))) ?_)
            · rw [List.length_append, List.length_singleton]
              omega
            · rcases List.mem_append.mp hs with q | q
              · exact s7 s q
              · rw [List.mem_singleton.mp q, pl]; omega
            · rw [List.length_append, List.length_singleton]
              omega
            · rw [List.filter_cons_of_pos (by unfold okB; exact decide_eq_true k), List.append_assoc]
              rfl
          · rw [decide_eq_false k, if_pos (by rfl)]
            refine rest I3 W S3 (by omega) F3 ?_
            rw [List.filter_cons_of_neg (by unfold okB; rw [decide_eq_false k]; decide)]
    have := loop ns.length 0 W I (by omega) hS hW hQ
    rw [nI_0] at this
    exact this
theorem flat_len {B : Nat} {g : Nat → List (List Nat)} (h : ∀ x, (g x).length ≤ B) : ∀ m a, ((List.range' a m).flatMap g).length ≤ m * B := by
  intro m
  induction m with
  | zero => intro a; rw [List.range'_zero, List.flatMap_nil, List.length_nil]; exact Nat.zero_le _
  | succ m ih =>
    intro a
    rw [List.range'_succ, List.flatMap_cons, List.length_append, Nat.succ_mul]
    have h1 := h a
    have h2 := ih (a + 1)
    omega
def visB : Nat → Nat
  | 0 => 0
  | f + 1 => 6 * (1 + visB f)
theorem vis_len {n : Nat} (hn : n ≤ 6) : ∀ f pre, (vis n f pre).length ≤ visB f := by
  intro f
  induction f with
  | zero => intro pre; exact Nat.le_refl _
  | succ f ih =>
    intro pre
    rw [vis]
    have h1 := flat_len (B := 1 + visB f) (g := fun h => if h ∈ pre then [] else (pre ++ [h]) :: vis n f (pre ++ [h])) (fun x => by
      show (if x ∈ pre then [] else (pre ++ [x]) :: vis n f (pre ++ [x])).length ≤ _
      split
      · exact Nat.zero_le _
      · rw [List.length_cons]
        have := ih (pre ++ [x])
        omega) n 0
    have h2 : n * (1 + visB f) ≤ 6 * (1 + visB f) := Nat.mul_le_mul_right _ hn
    exact Nat.le_trans h1 h2
theorem c_rb_31 (Q : Option Value → Mem → Prop) : ∀ (n k : Nat) (I : Nat → Nat → Int32), k + n = 6 → (∀ h, h < k → I 190 h = 0) → (∀ I', (∀ h, h < 6 → I' 190 h = 0) → (∀ a, a ≠ 190 → I' a = I a) → WV d i_Lives_seek [.ref 183, .ref 3, .int 0, .int 0] (mm L I' J) (fun M1 => Q none M1)) → Wn (d + 1) i_Lives_readBack 31 [(0, .ref 183), (1, .ref 3), (2, .int (nI k))] [] (mm L I J) Q := by
  intro n
  induction n with
  | zero =>
    intro k I hk hI hQ
    rw [show k = 6 by omega] at hI ⊢
    rw [H_Lives_readBack_31, if_neg (by decide)]
    exact hQ I hI (fun _ _ => rfl)
  | succ n ih =>
    intro k I hk hI hQ
    have e : nI k < nI 6 := nI_lt (by omega) (by omega)
    have e : nI k < 6 := e
    rw [H_Lives_readBack_31, if_pos e, nI_1]
    simp only [mm_C, mm_R, mm_L, mm_I, mm_sI, CL183, CL184, CL186, CL188, CL189, CL190, CL3, RR183_0, RR183_1, RR183_2, RR183_3, RR183_4, n184, n186, n188, n189, n190, LN188, LN189, LN190, ↓reduceIte]
    rw [if_pos ⟨trivial, inb_nI (by omega) (by omega)⟩, ix_nI (by omega)]
    refine ih (k + 1) _ (by omega) (fun j hj => ?_) (fun I' g1 g2 => hQ I' g1 (fun a ha => by rw [g2 a ha, up2_ne _ _ _ ha]))
    by_cases q : j = k
    · rw [q, up2_same]
    · rw [up2_other _ _ _ q]
      exact hI j (by omega)
theorem c_readBack {I : Nat → Nat → Int32} (hl : Cl I 3 ns ct) (Q : Mem → Prop) (hQ : ∀ I', Lv I' (wAll ns.length (okB ns (tieAll [] ct))) → (wAll ns.length (okB ns (tieAll [] ct))).length < 100000 → FrR 183 191 I I' → Q (mm L I' J)) : WV (d + 10) i_Lives_readBack [.ref 183, .ref 3] (mm L I J) Q := by
  have n6 := hl.2.1
  have c12 := hl.2.2.2.2
  have gl := tieAll_len ct []
  rw [List.length_nil] at gl
  rw [E_Lives_readBack]
  simp only [mm_C, mm_R, mm_L, mm_I, mm_sI, CL183, CL184, CL186, CL188, CL189, CL190, CL3, RR183_0, RR183_1, RR183_2, RR183_3, RR183_4, n184, n186, n188, n189, n190, LN188, LN189, LN190, ↓reduceIte, RR3_1, n5]
  refine c_becomeTight w184 w5 (by omega) (r5 hl) c12 c12 _ (fun I1 g1 g2 => ?_)
  simp only [mm_C, mm_R, mm_L, mm_I, mm_sI, CL183, CL184, CL186, CL188, CL189, CL190, CL3, RR183_0, RR183_1, RR183_2, RR183_3, RR183_4, n184, n186, n188, n189, n190, LN188, LN189, LN190, ↓reduceIte]
  refine c_emptyA w186 _ (fun I2 f1 f2 => ?_)
  have F1 : FrR 183 191 I I1 := FrR_1 g2 (by omega) (by omega)
  have F2 : FrR 183 191 I1 I2 := FrR_1 f2 (by omega) (by omega)
  simp only [mm_C, mm_R, mm_L, mm_I, mm_sI, CL183, CL184, CL186, CL188, CL189, CL190, CL3, RR183_0, RR183_1, RR183_2, RR183_3, RR183_4, n184, n186, n188, n189, n190, LN188, LN189, LN190, ↓reduceIte]
  have F3 : FrR 183 184 I2 (up2 (up2 I2 183 6 0) 183 5 0) := FrR_tr (FrR_u (by omega) (by omega)) (FrR_u (by omega) (by omega))
  have := c_rb_31 (d := d + 9) (L := L) (J := J) (QV Q) 6 0 (up2 (up2 I2 183 6 0) 183 5 0) (by omega) (fun h hh => absurd hh (Nat.not_lt_zero h)) (fun I4 p1 p2 => by
    have F4 : FrR 183 191 (up2 (up2 I2 183 6 0) 183 5 0) I4 := fun a q => p2 a (by omega)
    have F : FrR 183 191 I I4 := FrR_tr F1 (FrR_tr F2 (FrR_tr (FrR_w F3 (by omega) (by omega)) F4))
    have s184 : Rl I4 184 (tieAll [] ct) := by
      have r1 := Rl_fr w186 w184 (by omega) f2 g1
      exact Rl_keep r1 (by rw [p2 184 (by omega), F3 184 (by omega)]) (by rw [p2 185 (by omega), F3 185 (by omega)])
    have s186 : Rl I4 186 (jn ns []) := Rl_keep f1 (by rw [p2 186 (by omega), F3 186 (by omega)]) (by rw [p2 187 (by omega), F3 187 (by omega)])
    have sL : Lv I4 [] := ⟨by rw [p2 183 (by omega), up2_other _ _ _ (by omega), up2_same]; rfl, (fun x hx => by cases hx), (fun h hh => by rw [p1 h hh]; rfl)⟩
    have vl := vis_len n6 6 []
    have v6 : visB 6 = 55986 := by decide
    have sk := c_seek (d := d) (L := L) (J := J) (ns := ns) (ct := ct) (G := tieAll [] ct) (by omega) 6 [] 0 [] I4 (fun M1 => QV Q none M1) rfl (fun x hx => by cases hx) (by omega) (fun j hj => by rw [Nat.zero_testBit]; simp) ⟨Cl_fr F (by omega) hl, s184, s186, fun i hi => absurd hi (Nat.not_lt_zero i), sL, by rw [List.length_nil]; omega, fun s hs => by cases hs⟩ (by rw [List.length_nil]; omega) (fun I' q1 q2 => hQ I' q1.2.2.2.2.1 q1.2.2.2.2.2.1 (FrR_tr F q2))
    exact sk)
  rw [nI_0] at this
  exact this
end Sk
