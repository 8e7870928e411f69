/-! ===== next: the model ===== -/
section NxM
variable {d L : Nat} {J : Nat → Nat → Int64} {ns : List (List Nat)} {ct : List Nat} {ps : List Cp} {im : Nat → Option Cp} {tx : List Nat} {tr : Int64} {G : List Nat}
def Ct (I : Nat → Nat → Int32) (U : List (List Nat)) : Prop := ∀ h, h < 6 → I 261 h = nI (cv U h)
/-- only the counts change -/
def FrC (I I' : Nat → Nat → Int32) : Prop := ∀ a, a ≠ 261 → I' a = I a
theorem FrC_M {I I' : Nat → Nat → Int32} (h : FrC I I') : FrM I I' := ⟨fun a p => h a (by omega), fun k p => by rw [h 248 (by omega)]⟩
theorem Lf_C {I I' : Nat → Nat → Int32} (h : Lf I G) (F : FrC I I') : Lf I' G := ⟨by rw [F 248 (by omega)]; exact h.1, fun k hk => by rw [F 260 (by omega)]; exact h.2 k hk⟩
theorem m_nx61 {s : List Nat} {b : Nat → Nat} {a1 a3 : Int32} (h6 : ∀ i, i < s.length → s.getD i 0 < 6) (hs : s.length ≤ 6) (Q : Option Value → Mem → Prop) : ∀ (r k : Nat) (I : Nat → Nat → Int32), k + r = s.length → (∀ h, h < 6 → I 261 h = nI (b h + (s.take k).count h)) → (∀ i, i < s.length → I 259 i = nI (s.getD i 0)) → (∀ I', (∀ h, h < 6 → I' 261 h = nI (b h + s.count h)) → FrC I I' → Wn (d + 1) i_MD_next 44 [(0, .ref 248), (1, .int a1), (2, .int (nI s.length)), (3, .int (a3 + 1))] [] (mm L I' J) Q) →
    Wn (d + 1) i_MD_next 61 [(0, .ref 248), (1, .int a1), (2, .int (nI s.length)), (3, .int a3), (4, .int (nI k))] [] (mm L I J) Q := by
  intro r
  induction r with
  | zero =>
    intro k I hk h261 h259 hQ
    rw [H_MD_next_61, if_neg (nI_nlt (by omega) (by omega))]
    rw [show k = s.length by omega, List.take_length] at h261
    exact hQ I h261 (fun _ _ => rfl)
  | succ r ih =>
    intro k I hk h261 h259 hQ
    have x6 := h6 k (by omega)
    have x1 : I 259 k = nI (s.getD k 0) := h259 k (by omega)
    have kk : Int32.toNatClampNeg (nI k) = k := ix_nI (by omega)
    have kx : Int32.toNatClampNeg (nI (s.getD k 0)) = s.getD k 0 := ix_nI (by omega)
    have i1 : rdI 10 ∧ inb (nI k) 6 := ⟨by decide, inb_nI (by omega) (by omega)⟩
    have i2 : rdI 10 ∧ inb (nI (s.getD k 0)) 6 := ⟨by decide, inb_nI (by omega) (by omega)⟩
    have tk : s.take (k + 1) = s.take k ++ [s.getD k 0] := (take_app (by omega)).symm
    rw [H_MD_next_61, if_pos (nI_lt (by omega) (by omega)), nI_1 k]
    simp only [mm_C, mm_R, mm_L, mm_I, mm_sI, CL248, CL249, CL250, CL251, CL252, CL253, CL254, CL255, CL256, CL257, CL258, CL259, CL260, CL261, RR248_1, RR248_2, RR248_4, RR248_5, RR248_6, RR248_9, RR248_11, RR248_13, RR248_14, RR248_15, RR248_16, RR248_17, RR248_19, n249, n250, n251, n252, n253, n254, n255, n256, n257, n258, n259, n260, n261, LN249, LN250, LN251, LN252, LN253, LN254, LN255, LN256, LN257, LN258, LN259, LN260, LN261, ↓reduceIte, kk, x1, kx, h261 (s.getD k 0) x6, nI_1, true_and]
    rw [if_pos i1, if_pos i2, if_pos i2.2]
    refine ih (k + 1) _ (by omega) (fun h hh => ?_) (fun i hi => by rw [up2_ne _ _ _ (by omega)]; exact h259 i hi) (fun I' g1 g2 => hQ I' g1 (fun a ha => by rw [g2 a ha, up2_ne _ _ _ ha]))
    rw [tk, List.count_append]
    by_cases e : h = s.getD k 0
    · rw [e, up2_same, List.count_singleton_self]
      rfl
    · have z : List.count h [s.getD k 0] = 0 := List.count_eq_zero.mpr (fun q => e (List.mem_singleton.mp q))
      rw [up2_other _ _ _ e, z, h261 h hh]
      rfl
theorem m_nx44 {m : Nat} (hm : m ≤ 6) (h12 : G.length ≤ 12) (g6 : ∀ k, k < G.length → G.getD k 0 < 6) (Q : Option Value → Mem → Prop) : ∀ (r c : Nat) (U : List (List Nat)) (I : Nat → Nat → Int32), c + r = 6 ^ m → MdR I J ns ct ps im tx tr → Lf I G → Ct I U → (∀ U' I', U' = U ++ ((List.range' c r).map (fun q => spl q m)).filter (lifB ns G) → Ct I' U' → MdR I' J ns ct ps im tx tr → Lf I' G → FrR 248 262 I I' → Wn (d + 4) i_MD_next 29 [(0, .ref 248), (1, .int (nI (6 ^ m))), (2, .int (nI (m + 1)))] [] (mm L I' J) Q) →
    Wn (d + 4) i_MD_next 44 [(0, .ref 248), (1, .int (nI (6 ^ m))), (2, .int (nI m)), (3, .int (nI c))] [] (mm L I J) Q := by
  have p6 : 6 ^ m ≤ 6 ^ 6 := Nat.pow_le_pow_right (by omega) hm
  intro r
  induction r with
  | zero =>
    intro c U I hc h hG hC hQ
    rw [H_MD_next_44, if_neg (nI_nlt (by omega) (by omega)), nI_1]
    refine hQ U I ?_ hC h hG (FrR_rf _ _ _)
    rw [List.range'_zero, List.map_nil, List.filter_nil, List.append_nil]
  | succ r ih =>
    intro c U I hc h hG hC hQ
    have sl := spl_len c m
    rw [List.range'_succ, List.map_cons] at hQ
    rw [H_MD_next_44, if_pos (nI_lt (by omega) (by omega)), mm_C, if_pos CL248, nI_1 c]
    refine m_isLife h hm (by omega) hG h12 g6 _ (fun I1 f1 f2 => ?_)
    have F1 := FrM_R (FrL_M f2)
    have hM1 := MdR_sc h (FrL_M f2)
    have hG1 := Lf_L hG f2
    have hC1 : Ct I1 U := fun j hj => by rw [f2.1 261 (by omega) (by omega) (by omega)]; exact hC j hj
    cases e : lifB ns G (spl c m) with
    | false =>
      rw [if_pos (by rfl)]
      rw [List.filter_cons_of_neg (by rw [e]; decide)] at hQ
      exact ih (c + 1) U I1 (by omega) hM1 hG1 hC1 (fun U' I' q1 q2 q3 q4 q5 => hQ U' I' q1 q2 q3 q4 (FrR_tr F1 q5))
    | true =>
      rw [if_neg (by decide)]
      rw [List.filter_cons_of_pos (by rw [e])] at hQ
      have lp := m_nx61 (d := d + 3) (L := L) (J := J) (s := spl c m) (b := cv U) (a1 := nI (6 ^ m)) (a3 := nI c) (fun i hi => spl_6 c m i (by omega)) (by omega) Q (spl c m).length 0 I1 (by omega) (fun j hj => by rw [List.take_zero]; exact hC1 j hj) (fun i hi => f1 i (by omega)) (fun I2 g1 g2 => by
        rw [sl, nI_1 c]
        refine ih (c + 1) (U ++ [spl c m]) I2 (by omega) (MdR_sc hM1 (FrC_M g2)) (Lf_C hG1 g2) (fun j hj => ?_) (fun U' I' q1 q2 q3 q4 q5 => hQ U' I' ?_ q2 q3 q4 (FrR_tr F1 (FrR_tr (FrM_R (FrC_M g2)) q5)))
        · rw [g1 j hj]
          unfold cv
          rw [sm_app]
          rfl
        · rw [q1, List.append_assoc]
          rfl)
      rw [nI_0, sl] at lp
      exact lp
theorem m_nx105 {I : Nat → Nat → Int32} (a1 : Int32) (Q : Option Value → Mem → Prop) : ∀ m b h, b < 6 → h + m = 6 →
    (Wn (d + 1) i_MD_next 105 [(0, .ref 248), (1, .int a1), (2, .int (nI b)), (3, .int (nI h))] [] (mm L I J) Q ↔ (if I 261 (bst (I 261) m b h) = 0 then Q (some (.int (-9))) (mm L I J) else Q (some (.int (nI (bst (I 261) m b h)))) (mm L I J))) := by
  intro m
  induction m with
  | zero =>
    intro b h hb hh
    rw [H_MD_next_105, show h = 6 by omega, if_neg (by decide)]
    simp only [mm_C, mm_R, mm_L, mm_I, mm_sI, CL248, CL249, CL250, CL251, CL252, CL253, CL254, CL255, CL256, CL257, CL258, CL259, CL260, CL261, RR248_1, RR248_2, RR248_4, RR248_5, RR248_6, RR248_9, RR248_11, RR248_13, RR248_14, RR248_15, RR248_16, RR248_17, RR248_19, n249, n250, n251, n252, n253, n254, n255, n256, n257, n258, n259, n260, n261, LN249, LN250, LN251, LN252, LN253, LN254, LN255, LN256, LN257, LN258, LN259, LN260, LN261, ↓reduceIte]
    rw [if_pos (show rdI 10 ∧ inb (nI b) 6 from ⟨by decide, inb_nI (by omega) (by omega)⟩), ix_nI (by omega)]
    exact Iff.rfl
  | succ m ih =>
    intro b h hb hh
    have e : nI h < nI 6 := nI_lt (by omega) (by omega)
    have e : nI h < 6 := e
    have eb : bst (I 261) (m + 1) b h = bst (I 261) m (if I 261 b < I 261 h then h else b) (h + 1) := rfl
    rw [H_MD_next_105, if_pos e, nI_1, eb]
    simp only [mm_C, mm_R, mm_L, mm_I, mm_sI, CL248, CL249, CL250, CL251, CL252, CL253, CL254, CL255, CL256, CL257, CL258, CL259, CL260, CL261, RR248_1, RR248_2, RR248_4, RR248_5, RR248_6, RR248_9, RR248_11, RR248_13, RR248_14, RR248_15, RR248_16, RR248_17, RR248_19, n249, n250, n251, n252, n253, n254, n255, n256, n257, n258, n259, n260, n261, LN249, LN250, LN251, LN252, LN253, LN254, LN255, LN256, LN257, LN258, LN259, LN260, LN261, ↓reduceIte]
    rw [if_pos (show rdI 10 ∧ inb (nI h) 6 from ⟨by decide, inb_nI (by omega) (by omega)⟩), if_pos (show rdI 10 ∧ inb (nI b) 6 from ⟨by decide, inb_nI (by omega) (by omega)⟩), ix_nI (by omega), ix_nI (by omega), ih h (h + 1) (by omega) (by omega), ih b (h + 1) hb (by omega)]
    by_cases c : I 261 b < I 261 h
    · rw [if_pos c, if_pos c]
    · rw [if_neg c, if_neg c]
theorem m_nx29 (h12 : G.length ≤ 12) (g6 : ∀ k, k < G.length → G.getD k 0 < 6) (Q : Option Value → Mem → Prop) (hW : (wAll ns.length (okB ns G)).length < 100000) : ∀ (r k : Nat) (I : Nat → Nat → Int32), k + r = ns.length → MdR I J ns ct ps im tx tr → Lf I G → Ct I (uAll ns.length (okB ns G) k) → (∀ I', MdR I' J ns ct ps im tx tr → FrR 248 262 I I' → Q (some (.int (nexA (wAll ns.length (okB ns G))))) (mm L I' J)) →
    Wn (d + 4) i_MD_next 29 [(0, .ref 248), (1, .int (nI (6 ^ k))), (2, .int (nI (k + 1)))] [] (mm L I J) Q := by
  have e6 : ∀ x : Nat, nI x * 6 = nI (x * 6) := fun x => pk_mul x 6
  intro r
  induction r with
  | zero =>
    intro k I hk h hG hC hQ
    have n6 := h.2.1.2.2.2.1
    have ek : k = ns.length := by omega
    subst ek
    have ec : ∀ j, j < 6 → I 261 j = nI (cv (wAll ns.length (okB ns G)) j) := fun j hj => by
      rw [hC j hj]
      unfold cv
      rw [uAll_sm n6]
    rw [H_MD_next_29, mm_C, if_pos CL248, mm_I, h.1, if_pos (nI_lt (by omega) (by omega))]
    have lp := m_nx105 (d := d + 3) (L := L) (J := J) (I := I) (nI (6 ^ ns.length)) Q 5 0 1 (by omega) (by omega)
    rw [nI_0] at lp
    refine lp.mpr ?_
    have hq := hQ I h (FrR_rf _ _ _)
    have bl := bst_lt (I 261) 5 0 1 (by omega) (by omega)
    rw [ec _ bl]
    have hb : bst (I 261) 5 0 1 = bst (fun j => nI (cv (wAll ns.length (okB ns G)) j)) 5 0 1 := bst_cg 5 0 1 (by omega) (by omega) ec
    rw [hb]
    unfold nexA at hq
    cases e : fmo (wAll ns.length (okB ns G)) with
    | none =>
      rw [e] at hq
      have e0 := (fmo_none _).mp e
      rw [if_pos (by rw [e0]; rfl)]
      exact hq
    | some x =>
      rw [e] at hq
      have xm := (fmo_is _ x e).1
      obtain ⟨x1, x2, x3⟩ := w_len n6 xm
      have cb : ∀ j, cv (wAll ns.length (okB ns G)) j < 2 ^ 31 := fun j => by
        have := cv_le (fun s hs => w_6 n6 hs) j (W := wAll ns.length (okB ns G))
        omega
      obtain ⟨b1, b2⟩ := bst_ge cb 5 0 1
      have y0 : x.getD 0 0 ∈ x := mem_getD (by omega)
      have yn := ((vld_iff _ _).mp x3).1 _ y0
      have yp := cv_pos xm y0
      have yb : cv (wAll ns.length (okB ns G)) (x.getD 0 0) ≤ cv (wAll ns.length (okB ns G)) (bst (fun j => nI (cv (wAll ns.length (okB ns G)) j)) 5 0 1) := by
        by_cases q : x.getD 0 0 = 0
        · rw [q]; exact b1
        · exact b2 _ (by omega) (by omega)
      rw [if_neg (nI_ne0 (by omega) (cb _))]
      exact hq
  | succ r ih =>
    intro k I hk h hG hC hQ
    have n6 := h.2.1.2.2.2.1
    rw [H_MD_next_29, mm_C, if_pos CL248, mm_I, h.1, if_neg (nI_nlt (by omega) (by omega)), e6, ← Nat.pow_succ]
    have lp := m_nx44 (d := d) (L := L) (J := J) (ns := ns) (ct := ct) (ps := ps) (im := im) (tx := tx) (tr := tr) (G := G) (m := k + 1) (by omega) h12 g6 Q (6 ^ (k + 1)) 0 (uAll ns.length (okB ns G) k) I (by omega) h hG hC (fun U' I' q1 q2 q3 q4 q5 => by
      rw [lif_u, ← uAll_s] at q1
      rw [q1] at q2
      exact ih (k + 1) I' (by omega) q3 q4 q2 (fun I'' a b => hQ I'' a (FrR_tr q5 b)))
    rw [nI_0] at lp
    exact lp
theorem m_nx6 (Q : Option Value → Mem → Prop) : ∀ (n k : Nat) (I : Nat → Nat → Int32), k + n = 6 → (∀ h, h < k → I 261 h = 0) → (∀ I', (∀ h, h < 6 → I' 261 h = 0) → FrC I I' → Wn (d + 1) i_MD_next 29 [(0, .ref 248), (1, .int 1), (2, .int 1)] [] (mm L I' J) Q) → Wn (d + 1) i_MD_next 6 [(0, .ref 248), (1, .int (nI k))] [] (mm L I J) Q := by
  intro n
  induction n with
  | zero =>
    intro k I hk hI hQ
    rw [show k = 6 by omega] at hI ⊢
    rw [H_MD_next_6, if_neg (by decide)]
    exact hQ I hI (fun _ _ => rfl)
  | succ n ih =>
    intro k I hk hI hQ
    have e : nI k < nI 6 := nI_lt (by omega) (by omega)
    have e : nI k < 6 := e
    rw [H_MD_next_6, if_pos e, nI_1]
    simp only [mm_C, mm_R, mm_L, mm_I, mm_sI, CL248, CL249, CL250, CL251, CL252, CL253, CL254, CL255, CL256, CL257, CL258, CL259, CL260, CL261, RR248_1, RR248_2, RR248_4, RR248_5, RR248_6, RR248_9, RR248_11, RR248_13, RR248_14, RR248_15, RR248_16, RR248_17, RR248_19, n249, n250, n251, n252, n253, n254, n255, n256, n257, n258, n259, n260, n261, LN249, LN250, LN251, LN252, LN253, LN254, LN255, LN256, LN257, LN258, LN259, LN260, LN261, ↓reduceIte]
    rw [if_pos ⟨trivial, inb_nI (by omega) (by omega)⟩, ix_nI (by omega)]
    refine ih (k + 1) _ (by omega) (fun j hj => ?_) (fun I' g1 g2 => hQ I' g1 (fun a ha => by rw [g2 a ha, up2_ne _ _ _ ha]))
    by_cases q : j = k
    · rw [q, up2_same]
    · rw [up2_other _ _ _ q]
      exact hI j (by omega)
end NxM
section NxK
variable {d L : Nat} {I : Nat → Nat → Int32} {J : Nat → Nat → Int64} {ns : List (List Nat)} {ct : List Nat} {ps : List Cp} {im : Nat → Option Cp} {tx : List Nat} {tr : Int64}
theorem w_cnt {n : Nat} (hn : n ≤ 6) (ok : List Nat → Bool) : (wAll n ok).length < 100000 := by
  have h1 := List.length_filter_le ok (vis n 6 [])
  have h2 := vis_len hn 6 []
  have v6 : visB 6 = 55986 := by decide
  unfold wAll
  omega
theorem m_next (h : MdR I J ns ct ps im tx tr) (Q : Int32 → Mem → Prop) (hQ : ∀ I', MdR I' J ns ct ps im tx tr → FrR 248 262 I I' → Q (nexA (wAll ns.length (okB ns (tieAll [] ct)))) (mm L I' J)) : WI (d + 4) i_MD_next [.ref 248] (mm L I J) Q := by
  have n6 := h.2.1.2.2.2.1
  have c12 := h.2.1.2.1
  have gl := tieAll_len ct []
  rw [List.length_nil] at gl
  rw [E_MD_next, mm_C, if_pos CL248]
  refine m_layCt h.2.1 _ (fun I1 g1 g2 g3 => ?_)
  have lp := m_nx6 (d := d + 3) (L := L) (J := J) (QI Q) 6 0 I1 (by omega) (fun j hj => absurd hj (Nat.not_lt_zero j)) (fun I2 f1 f2 => m_nx29 (d := d) (L := L) (J := J) (ns := ns) (ct := ct) (ps := ps) (im := im) (tx := tx) (tr := tr) (G := tieAll [] ct) (by omega) g3 (QI Q) (w_cnt n6 _) ns.length 0 I2 (by omega) (MdR_sc (MdR_sc h g2) (FrC_M f2)) (Lf_C g1 f2) (fun j hj => f1 j hj) (fun I' a b => hQ I' a (FrR_tr (FrM_R g2) (FrR_tr (FrM_R (FrC_M f2)) b))))
  rw [nI_0] at lp
  exact lp
end NxK
