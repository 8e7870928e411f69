/-! ===== lives and next: the model ===== -/
def Lf (I : Nat → Nat → Int32) (G : List Nat) : Prop := I 248 18 = nI G.length ∧ ∀ k, k < G.length → I 260 k = nI (G.getD k 0)
/-- only cord and row change -/
def FrL (I I' : Nat → Nat → Int32) : Prop := (∀ a, a ≠ 248 → a ≠ 254 → a ≠ 259 → I' a = I a) ∧ ∀ k, k ≠ 10 → I' 248 k = I 248 k
theorem FrL_rf (I : Nat → Nat → Int32) : FrL I I := ⟨fun _ _ _ _ => rfl, fun _ _ => rfl⟩
theorem FrL_tr {I I' I'' : Nat → Nat → Int32} (h : FrL I I') (h2 : FrL I' I'') : FrL I I'' := ⟨fun a p q r => (h2.1 a p q r).trans (h.1 a p q r), fun k p => (h2.2 k p).trans (h.2 k p)⟩
theorem FrL_M {I I' : Nat → Nat → Int32} (h : FrL I I') : FrM I I' := ⟨fun a p => h.1 a (by omega) (by omega) (by omega), fun k p => h.2 k (by omega)⟩
theorem FrL_K {I I' : Nat → Nat → Int32} (h : FrK I I') : FrL I I' := ⟨fun a p q _ => h.1 a p q, h.2⟩
theorem FrL_u {I : Nat → Nat → Int32} {k : Nat} {v : Int32} : FrL I (up2 I 259 k v) := ⟨fun a _ _ r => up2_ne _ _ _ r, fun j _ => by rw [up2_ne _ _ _ (by omega)]⟩
theorem Lf_L {I I' : Nat → Nat → Int32} {G : List Nat} (h : Lf I G) (F : FrL I I') : Lf I' G := ⟨by rw [F.2 18 (by omega)]; exact h.1, fun k hk => by rw [F.1 260 (by omega) (by omega) (by omega)]; exact h.2 k hk⟩
def lifB (ns : List (List Nat)) (G s : List Nat) : Bool := vldB ns.length s && okB ns G s
section LfM
variable {d L : Nat} {J : Nat → Nat → Int64} {ns : List (List Nat)} {ct : List Nat} {ps : List Cp} {im : Nat → Option Cp} {tx : List Nat} {tr : Int64} {G : List Nat}
theorem m_if132 {I : Nat → Nat → Int32} {l : List Nat} (hc : Cd I l) (hl : l.length ≤ 72) (hG : Lf I G) (h12 : G.length ≤ 12) (g6 : ∀ k, k < G.length → G.getD k 0 < 6) (he : l.length = G.length) (a1 a2 a3 a4 : Int32) (Q : Option Value → Mem → Prop) : ∀ r k f, k + r = l.length →
    (Wn (d + 1) i_MD_isLife 132 [(0, .ref 248), (1, .int a1), (2, .int a2), (3, .int a3), (4, .int a4), (5, .int (bI f)), (6, .int (nI k))] [] (mm L I J) Q ↔ Q (some (.int (bI (f && alB (fun j => g0 l j == g0 G j) r k)))) (mm L I J)) := by
  intro r
  induction r with
  | zero =>
    intro k f hk
    rw [H_MD_isLife_132]
    simp only [mm_C, mm_R, mm_L, mm_I, mm_sI, CL248, CL249, CL250, CL251, CL252, CL253, CL254, CL255, CL256, CL257, CL258, CL259, CL260, CL261, RR248_1, RR248_2, RR248_4, RR248_5, RR248_6, RR248_9, RR248_11, RR248_13, RR248_14, RR248_15, RR248_16, RR248_17, RR248_19, n249, n250, n251, n252, n253, n254, n255, n256, n257, n258, n259, n260, n261, LN249, LN250, LN251, LN252, LN253, LN254, LN255, LN256, LN257, LN258, LN259, LN260, LN261, ↓reduceIte, hc.1]
    rw [if_neg (nI_nlt (by omega) (by omega)), if_pos (bI_01 _)]
    show _ ↔ Q (some (.int (bI (f && true)))) _
    rw [Bool.and_true]
  | succ r ih =>
    intro k f hk
    have x1 := Cd_6 hc (show k < l.length by omega)
    have x2 := g6 k (by omega)
    have it := ih (k + 1) true (by omega)
    have ifl := ih (k + 1) false (by omega)
    have b1 : bI true = 1 := rfl
    have b0 : bI false = 0 := rfl
    rw [b1] at it
    rw [b0] at ifl
    rw [H_MD_isLife_132]
    simp only [mm_C, mm_R, mm_L, mm_I, mm_sI, CL248, CL249, CL250, CL251, CL252, CL253, CL254, CL255, CL256, CL257, CL258, CL259, CL260, CL261, RR248_1, RR248_2, RR248_4, RR248_5, RR248_6, RR248_9, RR248_11, RR248_13, RR248_14, RR248_15, RR248_16, RR248_17, RR248_19, n249, n250, n251, n252, n253, n254, n255, n256, n257, n258, n259, n260, n261, LN249, LN250, LN251, LN252, LN253, LN254, LN255, LN256, LN257, LN258, LN259, LN260, LN261, ↓reduceIte, hc.1]
    rw [if_pos (nI_lt (by omega) (by omega)), nI_1]
    cases f with
    | false => rw [if_pos (by rfl), if_pos (bI_01 _), Bool.false_and]
    | true =>
      rw [if_neg (by decide), if_pos (show rdI 10 ∧ inb (nI k) 72 from ⟨by decide, inb_nI (by omega) (by omega)⟩), if_pos (show rdI 10 ∧ inb (nI k) 12 from ⟨by decide, inb_nI (by omega) (by omega)⟩), ix_nI (by omega), hc.2.1 k (by omega), hG.2 k (by omega), it, ifl]
      by_cases e : l.getD k 0 = G.getD k 0
      · rw [if_pos (by rw [e]), alB_t (P := fun j => g0 l j == g0 G j) (eb_t e)]
      · rw [if_neg (fun q => e ((nI_eq (by omega) (by omega)).mp q)), alB_f (P := fun j => g0 l j == g0 G j) (eb_f e), Bool.false_and, Bool.and_false]
theorem eq_alB {l G : List Nat} (he : l.length = G.length) : alB (fun j => g0 l j == g0 G j) l.length 0 = decide (l = G) := by
  apply Bool.eq_iff_iff.mpr
  rw [alB_iff, decide_eq_true_eq]
  constructor
  · intro q
    apply List.ext_getElem he
    intro j h1 h2
    have := q j (by omega) (by omega)
    simp [g0, h1, h2] at this
    exact this
  · intro q j _ _
    rw [q]
    simp
theorem m_if88 {s : List Nat} (h12 : G.length ≤ 12) (g6 : ∀ k, k < G.length → G.getD k 0 < 6) (hs6 : s.length ≤ 6) (hx : ∀ x ∈ s, x < ns.length) (a2 a3 a4 : Int32) (Q : Option Value → Mem → Prop) : ∀ (r k : Nat) (I : Nat → Nat → Int32), k + r = s.length → MdR I J ns ct ps im tx tr → Lf I G → Cd I (jn ns (s.take k)) → (∀ i, i < s.length → I 259 i = nI (s.getD i 0)) → (∀ I', (∀ i, i < s.length → I' 259 i = nI (s.getD i 0)) → FrL I I' → Q (some (.int (bI (okB ns G s)))) (mm L I' J)) →
    Wn (d + 3) i_MD_isLife 88 [(0, .ref 248), (1, .int (nI s.length)), (2, .int a2), (3, .int a3), (4, .int a4), (5, .int (nI k))] [] (mm L I J) Q := by
  intro r
  induction r with
  | zero =>
    intro k I hk h hG hc hrow hQ
    have jl := jn_len (ns := ns) (fun j hj => mle h.2.1 hj) hx
    rw [show k = s.length by omega, List.take_length] at hc
    rw [H_MD_isLife_88, if_neg (nI_nlt (by omega) (by omega))]
    simp only [mm_C, mm_R, mm_L, mm_I, mm_sI, CL248, CL249, CL250, CL251, CL252, CL253, CL254, CL255, CL256, CL257, CL258, CL259, CL260, CL261, RR248_1, RR248_2, RR248_4, RR248_5, RR248_6, RR248_9, RR248_11, RR248_13, RR248_14, RR248_15, RR248_16, RR248_17, RR248_19, n249, n250, n251, n252, n253, n254, n255, n256, n257, n258, n259, n260, n261, LN249, LN250, LN251, LN252, LN253, LN254, LN255, LN256, LN257, LN258, LN259, LN260, LN261, ↓reduceIte, hc.1, hG.1]
    have hq := hQ I hrow (FrL_rf I)
    by_cases e : (jn ns s).length = G.length
    · rw [if_pos (by rw [e])]
      have lp := m_if132 (d := d + 2) (L := L) (J := J) hc (by omega) hG h12 g6 e (nI s.length) a2 a3 a4 Q (jn ns s).length 0 true (by omega)
      have b1 : bI true = 1 := rfl
      rw [b1, nI_0, Bool.true_and, eq_alB e] at lp
      exact lp.mpr hq
    · rw [if_neg (fun q => e ((nI_eq (by omega) (by omega)).mp q)), H_MD_isLife_132]
      have z : okB ns G s = false := decide_eq_false (fun q => e (by rw [q]))
      rw [z] at hq
      simp only [mm_C, mm_R, mm_L, mm_I, mm_sI, CL248, CL249, CL250, CL251, CL252, CL253, CL254, CL255, CL256, CL257, CL258, CL259, CL260, CL261, RR248_1, RR248_2, RR248_4, RR248_5, RR248_6, RR248_9, RR248_11, RR248_13, RR248_14, RR248_15, RR248_16, RR248_17, RR248_19, n249, n250, n251, n252, n253, n254, n255, n256, n257, n258, n259, n260, n261, LN249, LN250, LN251, LN252, LN253, LN254, LN255, LN256, LN257, LN258, LN259, LN260, LN261, ↓reduceIte, hc.1]
      rw [if_pos (Or.inl trivial), ite_self]
      exact hq
  | succ r ih =>
    intro k I hk h hG hc hrow hQ
    have xk := hx _ (mem_getD (show k < s.length by omega))
    have lk := mle h.2.1 xk
    have jl := jn_len (ns := ns) (s := s.take k) (fun j hj => mle h.2.1 hj) (fun x q => hx x (List.mem_of_mem_take q))
    have tl : (s.take k).length = k := by rw [List.length_take]; omega
    rw [H_MD_isLife_88, if_pos (nI_lt (by omega) (by omega)), nI_1]
    simp only [mm_C, mm_R, mm_L, mm_I, mm_sI, CL248, CL249, CL250, CL251, CL252, CL253, CL254, CL255, CL256, CL257, CL258, CL259, CL260, CL261, RR248_1, RR248_2, RR248_4, RR248_5, RR248_6, RR248_9, RR248_11, RR248_13, RR248_14, RR248_15, RR248_16, RR248_17, RR248_19, n249, n250, n251, n252, n253, n254, n255, n256, n257, n258, n259, n260, n261, LN249, LN250, LN251, LN252, LN253, LN254, LN255, LN256, LN257, LN258, LN259, LN260, LN261, ↓reduceIte]
    rw [if_pos (show rdI 10 ∧ inb (nI k) 6 from ⟨by decide, inb_nI (by omega) (by omega)⟩), ix_nI (by omega), hrow k (by omega)]
    refine m_tieName h.2.1 xk hc (by omega) _ (fun I1 g1 g2 => ?_)
    rw [← jn_app, take_app (by omega)] at g1
    exact ih (k + 1) I1 (by omega) (MdR_sc h (FrM_K g2)) (Lf_L hG (FrL_K g2)) g1 (fun i hi => by rw [g2.1 259 (by omega) (by omega)]; exact hrow i hi) (fun I' f1 f2 => hQ I' f1 (FrL_tr (FrL_K g2) f2))
theorem m_if10 {m q : Nat} (hm : m ≤ 6) (hq : q < 2 ^ 31) (h12 : G.length ≤ 12) (g6 : ∀ k, k < G.length → G.getD k 0 < 6) (Q : Option Value → Mem → Prop) : ∀ (k : Nat) (I : Nat → Nat → Int32), k ≤ m → MdR I J ns ct ps im tx tr → Lf I G → (∀ i, k ≤ i → i < m → I 259 i = nI ((spl q m).getD i 0)) → (∀ I', (∀ i, i < m → I' 259 i = nI ((spl q m).getD i 0)) → FrL I I' → Q (some (.int (bI (lifB ns G (spl q m))))) (mm L I' J)) →
    Wn (d + 3) i_MD_isLife 10 [(0, .ref 248), (1, .int (nI m)), (2, .int (nI q)), (3, .int (nI (q / 6 ^ (m - k)))), (4, .int (nI (msk ns.length ((spl q m).drop k)))), (5, .int (nI k + (-1)))] [] (mm L I J) Q := by
  have e6 : (6 : Int32) = nI 6 := by decide
  have sl := spl_len q m
  intro k
  induction k with
  | zero =>
    intro I hk h hG hI hQ
    have n6 := h.2.1.2.2.2.1
    obtain ⟨p1, p2, p3, p4, p5⟩ := msk_p n6 (spl q m)
    rw [H_MD_isLife_10, if_pos (by decide), List.drop_zero, m_bits p1]
    have hrow : ∀ i, i < m → I 259 i = nI ((spl q m).getD i 0) := fun i hi => hI i (Nat.zero_le _) hi
    have pm := p2
    rw [sl] at p2 p4
    by_cases v : vldB ns.length (spl q m) = true
    · rw [if_pos (by rw [p4.mpr v])]
      simp only [mm_C, mm_R, mm_L, mm_I, mm_sI, CL248, CL249, CL250, CL251, CL252, CL253, CL254, CL255, CL256, CL257, CL258, CL259, CL260, CL261, RR248_1, RR248_2, RR248_4, RR248_5, RR248_6, RR248_9, RR248_11, RR248_13, RR248_14, RR248_15, RR248_16, RR248_17, RR248_19, n249, n250, n251, n252, n253, n254, n255, n256, n257, n258, n259, n260, n261, LN249, LN250, LN251, LN252, LN253, LN254, LN255, LN256, LN257, LN258, LN259, LN260, LN261, ↓reduceIte]
      have hx := ((vld_iff _ _).mp v).1
      have F0 : FrL I (up2 I 248 10 0) := FrL_K FrK_0
      have lp := m_if88 (d := d) (L := L) (J := J) (ns := ns) (ct := ct) (ps := ps) (im := im) (tx := tx) (tr := tr) (s := spl q m) h12 g6 (by omega) hx (nI q) (nI (q / 6 ^ (m - 0))) (nI (msk ns.length (spl q m))) Q m 0 (up2 I 248 10 0) (by omega) (MdR_sc h (FrL_M F0)) (Lf_L hG F0) Cd_0 (fun i hi => by rw [up2_ne _ _ _ (by omega)]; exact hrow i (by omega)) (fun I' f1 f2 => by
        have := hQ I' (fun i hi => f1 i (by omega)) (FrL_tr F0 f2)
        unfold lifB at this
        rw [v, Bool.true_and] at this
        exact this)
      rw [sl, nI_0] at lp
      exact lp
    · have v' : vldB ns.length (spl q m) = false := by simpa using v
      have ne : ¬ pop (msk ns.length (spl q m)) = m := fun r => v (p4.mp r)
      rw [if_neg (fun r => ne ((nI_eq (by omega) (by omega)).mp r))]
      have := hQ I hrow (FrL_rf I)
      unfold lifB at this
      rw [v', Bool.false_and] at this
      exact this
  | succ k ih =>
    intro I hk h hG hI hQ
    have n6 := h.2.1.2.2.2.1
    have p3 : q / 6 ^ (m - (k + 1)) ≤ q := Nat.div_le_self _ _
    have e1 : q / 6 ^ (m - (k + 1)) / 6 = q / 6 ^ (m - k) := by rw [Nat.div_div_eq_div_mul, ← Nat.pow_succ, show (m - (k + 1)).succ = m - k by omega]
    have e2 : q / 6 ^ (m - (k + 1)) % 6 = (spl q m).getD k 0 := by rw [spl_at q m k (by omega), show m - 1 - k = m - (k + 1) by omega]
    have x6 := spl_6 q m k (by omega)
    have kk : Int32.toNatClampNeg (nI k) = k := ix_nI (by omega)
    have ik : inb (nI k) 6 := inb_nI (by omega) (by omega)
    have F1 : FrL I (up2 I 259 k (nI ((spl q m).getD k 0))) := FrL_u
    have h1 := MdR_sc h (FrL_M F1)
    have mp := (msk_p n6 ((spl q m).drop (k + 1))).1
    have ed : msk ns.length ((spl q m).drop k) = if (spl q m).getD k 0 < ns.length then msk ns.length ((spl q m).drop (k + 1)) ||| 2 ^ (spl q m).getD k 0 else msk ns.length ((spl q m).drop (k + 1)) := by
      rw [drop_cons (by omega)]
      rfl
    obtain ⟨o1, o2, o3, o4⟩ := or_F ⟨_, mp⟩ ⟨(spl q m).getD k 0, x6⟩
    have o1 : nI (msk ns.length ((spl q m).drop (k + 1))) ||| ((1 : Int32) <<< (nI ((spl q m).getD k 0) &&& 31)) = nI (msk ns.length ((spl q m).drop (k + 1)) ||| 2 ^ (spl q m).getD k 0) := o1
    have hI1 : ∀ i, k ≤ i → i < m → up2 I 259 k (nI ((spl q m).getD k 0)) 259 i = nI ((spl q m).getD i 0) := fun i i1 i2 => by
      by_cases e : i = k
      · rw [e, up2_same]
      · rw [up2_other _ _ _ e]
        exact hI i (by omega) i2
    have nxt := ih _ (by omega) h1 (Lf_L hG F1) hI1 (fun I' f1 f2 => hQ I' f1 (FrL_tr F1 f2))
    rw [ed] at nxt
    rw [nI_dec, H_MD_isLife_10, if_neg (nI_nn (by omega)), e6, pk_rem (by omega) (by omega) (by omega), pk_div (by omega) (by omega) (by omega), e1, e2]
    simp only [mm_C, mm_R, mm_L, mm_I, mm_sI, CL248, CL249, CL250, CL251, CL252, CL253, CL254, CL255, CL256, CL257, CL258, CL259, CL260, CL261, RR248_1, RR248_2, RR248_4, RR248_5, RR248_6, RR248_9, RR248_11, RR248_13, RR248_14, RR248_15, RR248_16, RR248_17, RR248_19, n249, n250, n251, n252, n253, n254, n255, n256, n257, n258, n259, n260, n261, LN249, LN250, LN251, LN252, LN253, LN254, LN255, LN256, LN257, LN258, LN259, LN260, LN261, ↓reduceIte, kk, up2_same, true_and]
    rw [if_pos ik, if_pos ⟨by decide, ik⟩, m_herd h1]
    by_cases c : (spl q m).getD k 0 < ns.length
    · rw [if_pos c] at nxt
      rw [has_Y n6 c, if_neg (by decide)]
      simp only [mm_C, mm_R, mm_L, mm_I, mm_sI, CL248, CL249, CL250, CL251, CL252, CL253, CL254, CL255, CL256, CL257, CL258, CL259, CL260, CL261, RR248_1, RR248_2, RR248_4, RR248_5, RR248_6, RR248_9, RR248_11, RR248_13, RR248_14, RR248_15, RR248_16, RR248_17, RR248_19, n249, n250, n251, n252, n253, n254, n255, n256, n257, n258, n259, n260, n261, LN249, LN250, LN251, LN252, LN253, LN254, LN255, LN256, LN257, LN258, LN259, LN260, LN261, ↓reduceIte, kk, up2_same]
      rw [if_pos ⟨by decide, ik⟩, o1]
      exact nxt
    · rw [if_neg c] at nxt
      rw [has_N n6 (Or.inr (nI_le (by omega) (by omega))), if_pos (by rfl), Int32.or_zero]
      exact nxt
theorem m_isLife {I : Nat → Nat → Int32} {m q : Nat} (h : MdR I J ns ct ps im tx tr) (hm : m ≤ 6) (hq : q < 2 ^ 31) (hG : Lf I G) (h12 : G.length ≤ 12) (g6 : ∀ k, k < G.length → G.getD k 0 < 6) (Q : Int32 → Mem → Prop) (hQ : ∀ I', (∀ i, i < m → I' 259 i = nI ((spl q m).getD i 0)) → FrL I I' → Q (bI (lifB ns G (spl q m))) (mm L I' J)) : WI (d + 3) i_MD_isLife [.ref 248, .int (nI m), .int (nI q)] (mm L I J) Q := by
  rw [E_MD_isLife]
  have e : nI m - 1 = nI m + (-1) := by rw [Int32.sub_eq_add_neg]
  have sl := spl_len q m
  have := m_if10 (d := d) (L := L) (J := J) (ns := ns) (ct := ct) (ps := ps) (im := im) (tx := tx) (tr := tr) (G := G) hm hq h12 g6 (QI Q) m I (Nat.le_refl _) h hG (fun i h1 h2 => by omega) hQ
  have dz : (spl q m).drop m = [] := List.drop_eq_nil_of_le (by omega)
  rw [dz, Nat.sub_self, Nat.pow_zero, Nat.div_one] at this
  rw [e]
  exact this
theorem m_lay14 {I : Nat → Nat → Int32} {l : List Nat} (hc : Cd I l) (h12 : l.length ≤ 12) (Q : Option Value → Mem → Prop) : ∀ n k, k + n = l.length → (Wn (d + 1) i_MD_layContract 14 [(0, .ref 248), (1, .int (nI k))] [] (mm L (cpN I 254 0 260 0 k) J) Q ↔ Q none (mm L (cpN I 254 0 260 0 l.length) J)) := by
  intro n
  induction n with
  | zero =>
    intro k hk
    have t10 : cpN I 254 0 260 0 k 248 10 = nI l.length := by rw [cpN_ne _ (by omega)]; exact hc.1
    rw [H_MD_layContract_14]
    simp only [mm_C, mm_R, mm_L, mm_I, mm_sI, CL248, CL249, CL250, CL251, CL252, CL253, CL254, CL255, CL256, CL257, CL258, CL259, CL260, CL261, RR248_1, RR248_2, RR248_4, RR248_5, RR248_6, RR248_9, RR248_11, RR248_13, RR248_14, RR248_15, RR248_16, RR248_17, RR248_19, n249, n250, n251, n252, n253, n254, n255, n256, n257, n258, n259, n260, n261, LN249, LN250, LN251, LN252, LN253, LN254, LN255, LN256, LN257, LN258, LN259, LN260, LN261, ↓reduceIte, t10]
    rw [if_neg (nI_nlt (by omega) (by omega)), show k = l.length by omega]
  | succ n ih =>
    intro k hk
    have t10 : cpN I 254 0 260 0 k 248 10 = nI l.length := by rw [cpN_ne _ (by omega)]; exact hc.1
    have cs := cpN_s I (a := 254) (i := 0) (b := 260) (j := 0) (n := k) (by omega)
    rw [Nat.zero_add] at cs
    rw [H_MD_layContract_14]
    simp only [mm_C, mm_R, mm_L, mm_I, mm_sI, CL248, CL249, CL250, CL251, CL252, CL253, CL254, CL255, CL256, CL257, CL258, CL259, CL260, CL261, RR248_1, RR248_2, RR248_4, RR248_5, RR248_6, RR248_9, RR248_11, RR248_13, RR248_14, RR248_15, RR248_16, RR248_17, RR248_19, n249, n250, n251, n252, n253, n254, n255, n256, n257, n258, n259, n260, n261, LN249, LN250, LN251, LN252, LN253, LN254, LN255, LN256, LN257, LN258, LN259, LN260, LN261, ↓reduceIte, t10]
    rw [if_pos (nI_lt (by omega) (by omega)), if_pos (show rdI 10 ∧ inb (nI k) 72 from ⟨by decide, inb_nI (by omega) (by omega)⟩), if_pos ⟨trivial, inb_nI (by omega) (by omega)⟩, ix_nI (by omega), cs, nI_1, ih (k + 1) (by omega)]
theorem m_layCt {I : Nat → Nat → Int32} (h : Ml I 249 0 ns ct) (Q : Mem → Prop) (hQ : ∀ I', Lf I' (tieAll [] ct) → FrM I I' → (∀ k, k < (tieAll [] ct).length → (tieAll [] ct).getD k 0 < 6) → Q (mm L I' J)) : WV (d + 3) i_MD_layContract [.ref 248] (mm L I J) Q := by
  have c12 := h.2.1
  have gl := tieAll_len ct []
  rw [List.length_nil] at gl
  rw [E_MD_layContract]
  simp only [mm_C, mm_R, mm_L, mm_I, mm_sI, CL248, CL249, CL250, CL251, CL252, CL253, CL254, CL255, CL256, CL257, CL258, CL259, CL260, CL261, RR248_1, RR248_2, RR248_4, RR248_5, RR248_6, RR248_9, RR248_11, RR248_13, RR248_14, RR248_15, RR248_16, RR248_17, RR248_19, n249, n250, n251, n252, n253, n254, n255, n256, n257, n258, n259, n260, n261, LN249, LN250, LN251, LN252, LN253, LN254, LN255, LN256, LN257, LN258, LN259, LN260, LN261, ↓reduceIte]
  refine m_tieCt h _ (fun I1 g1 g2 => ?_)
  simp only [mm_C, mm_R, mm_L, mm_I, mm_sI, CL248, CL249, CL250, CL251, CL252, CL253, CL254, CL255, CL256, CL257, CL258, CL259, CL260, CL261, RR248_1, RR248_2, RR248_4, RR248_5, RR248_6, RR248_9, RR248_11, RR248_13, RR248_14, RR248_15, RR248_16, RR248_17, RR248_19, n249, n250, n251, n252, n253, n254, n255, n256, n257, n258, n259, n260, n261, LN249, LN250, LN251, LN252, LN253, LN254, LN255, LN256, LN257, LN258, LN259, LN260, LN261, ↓reduceIte, g1.1]
  have c1 : Cd (up2 I1 248 18 (nI (tieAll [] ct).length)) (tieAll [] ct) := ⟨by rw [up2_other _ _ _ (by omega)]; exact g1.1, fun k hk => by rw [up2_ne _ _ _ (by omega)]; exact g1.2.1 k hk, g1.2.2⟩
  have lp := m_lay14 (d := d + 2) (L := L) (J := J) c1 (by omega) (QV Q) (tieAll [] ct).length 0 (by omega)
  rw [nI_0, cpN_0] at lp
  refine lp.mpr (hQ _ ⟨?_, fun k hk => ?_⟩ (FrM_tr (FrM_K g2) (FrM_tr (FrM_f (k := 18) (v := nI (tieAll [] ct).length) (by omega) (by omega) (by omega)) ⟨fun a p => cpN_ne _ (by omega), fun k p => by rw [cpN_ne _ (by omega)]⟩)) (fun k hk => Cd_6 g1 hk))
  · rw [cpN_ne _ (by omega), up2_same]
  · have := cpN_at (up2 I1 248 18 (nI (tieAll [] ct).length)) (a := 254) (i := 0) (b := 260) (j := 0) hk
    rw [Nat.zero_add] at this
    rw [this]
    exact c1.2.1 k hk
/-- the first that the model has found -/
def FsR (ns : List (List Nat)) (G : List Nat) (U : List (List Nat)) (v3 v4 : Int32) : Prop := (U = [] ∧ v3 = -9 ∧ v4 = 0) ∨ ∃ c m0, U.head? = some (spl c m0) ∧ v3 = nI c ∧ v4 = nI m0 ∧ c < 2 ^ 30 ∧ m0 ≤ 6 ∧ lifB ns G (spl c m0) = true
theorem m_lv44 {m : Nat} (h1 : 1 ≤ m) (hm : m ≤ 6) (h12 : G.length ≤ 12) (g6 : ∀ k, k < G.length → G.getD k 0 < 6) (z : Int32) (Q : Option Value → Mem → Prop) : ∀ (r c : Nat) (U : List (List Nat)) (v3 v4 : Int32) (I : Nat → Nat → Int32), c + r = 6 ^ m → MdR I J ns ct ps im tx tr → Lf I G → FsR ns G U v3 v4 → (∀ U' v3' v4' I', U' = U ++ ((List.range' c r).map (fun q => spl q m)).filter (lifB ns G) → FsR ns G U' v3' v4' → MdR I' J ns ct ps im tx tr → Lf I' G → FrR 248 262 I I' → Wn (d + 4) i_MD_lives 25 [(0, .ref 248), (1, .int z), (2, .int (nI U'.length)), (3, .int v3'), (4, .int v4'), (5, .int (nI (6 ^ m))), (6, .int (nI (m + 1)))] [] (mm L I' J) Q) →
    Wn (d + 4) i_MD_lives 44 [(0, .ref 248), (1, .int z), (2, .int (nI U.length)), (3, .int v3), (4, .int v4), (5, .int (nI (6 ^ m))), (6, .int (nI m)), (7, .int (nI c))] [] (mm L I J) Q := by
  have p6 : 6 ^ m ≤ 6 ^ 6 := Nat.pow_le_pow_right (by omega) hm
  intro r
  induction r with
  | zero =>
    intro c U v3 v4 I hc h hG hF hQ
    rw [H_MD_lives_44, if_neg (nI_nlt (by omega) (by omega)), nI_1]
    refine hQ U v3 v4 I ?_ hF h hG (FrR_rf _ _ _)
    rw [List.range'_zero, List.map_nil, List.filter_nil, List.append_nil]
  | succ r ih =>
    intro c U v3 v4 I hc h hG hF hQ
    rw [List.range'_succ, List.map_cons] at hQ
    rw [H_MD_lives_44, if_pos (nI_lt (by omega) (by omega)), mm_C, if_pos CL248, nI_1 c, nI_1 U.length]
    refine m_isLife h hm (by omega) hG h12 g6 _ (fun I1 f1 f2 => ?_)
    have F1 := FrM_R (FrL_M f2)
    have hM1 := MdR_sc h (FrL_M f2)
    have hG1 := Lf_L hG f2
    cases e : lifB ns G (spl c m) with
    | false =>
      rw [if_pos (by rfl)]
      rw [List.filter_cons_of_neg (by rw [e]; decide)] at hQ
      exact ih (c + 1) U v3 v4 I1 (by omega) hM1 hG1 hF (fun U' v3' v4' I' q1 q2 q3 q4 q5 => hQ U' v3' v4' I' q1 q2 q3 q4 (FrR_tr F1 q5))
    | true =>
      rw [if_neg (by decide)]
      rw [List.filter_cons_of_pos (by rw [e])] at hQ
      have lU : (U ++ [spl c m]).length = U.length + 1 := by rw [List.length_append, List.length_singleton]
      have nx := ih (c + 1) (U ++ [spl c m])
      rw [lU] at nx
      rcases hF with ⟨u1, u2, u3⟩ | ⟨c0, m0, u1, u2, u3, u4, u5, u6⟩
      · rw [if_pos u2, if_pos u2]
        refine nx (nI c) (nI m) I1 (by omega) hM1 hG1 (Or.inr ⟨c, m, by rw [u1]; rfl, rfl, rfl, by omega, hm, e⟩) (fun U' v3' v4' I' q1 q2 q3 q4 q5 => hQ U' v3' v4' I' ?_ q2 q3 q4 (FrR_tr F1 q5))
        rw [q1, List.append_assoc]
        rfl
      · have n9 : ¬ v3 = -9 := by rw [u2]; exact nI_n9 (by omega)
        rw [if_neg n9, if_neg n9]
        refine nx v3 v4 I1 (by omega) hM1 hG1 (Or.inr ⟨c0, m0, by rw [List.head?_append, u1]; rfl, u2, u3, u4, u5, u6⟩) (fun U' v3' v4' I' q1 q2 q3 q4 q5 => hQ U' v3' v4' I' ?_ q2 q3 q4 (FrR_tr F1 q5))
        rw [q1, List.append_assoc]
        rfl
theorem uAll_s (n : Nat) (ok : List Nat → Bool) (k : Nat) : uAll n ok (k + 1) = uAll n ok k ++ uLen n ok (k + 1) := by
  unfold uAll
  rw [List.range'_1_concat, List.flatMap_append, List.flatMap_cons, List.flatMap_nil, List.append_nil, Nat.add_comm 1 k]
theorem lif_u (ns : List (List Nat)) (G : List Nat) (m : Nat) : ((List.range' 0 (6 ^ m)).map (fun q => spl q m)).filter (lifB ns G) = uLen ns.length (okB ns G) m := rfl
theorem m_lv25 (h12 : G.length ≤ 12) (g6 : ∀ k, k < G.length → G.getD k 0 < 6) {z : Int32} (hz : ¬ z < -1) (Q : Option Value → Mem → Prop) : ∀ (r k : Nat) (v3 v4 : Int32) (I : Nat → Nat → Int32), k + r = ns.length → MdR I J ns ct ps im tx tr → Lf I G → FsR ns G (uAll ns.length (okB ns G) k) v3 v4 → (∀ I', MdR I' J ns ct ps im tx tr → FrR 248 262 I I' → Q (some (.int (livA (wAll ns.length (okB ns G)) z))) (mm L I' J)) →
    Wn (d + 4) i_MD_lives 25 [(0, .ref 248), (1, .int z), (2, .int (nI (uAll ns.length (okB ns G) k).length)), (3, .int v3), (4, .int v4), (5, .int (nI (6 ^ k))), (6, .int (nI (k + 1)))] [] (mm L I J) Q := by
  have e6 : ∀ x : Nat, nI x * 6 = nI (x * 6) := fun x => pk_mul x 6
  intro r
  induction r with
  | zero =>
    intro k v3 v4 I hk h hG hF hQ
    have n6 := h.2.1.2.2.2.1
    have ek : k = ns.length := by omega
    subst ek
    have ul := uAll_len n6 (okB ns G)
    have uh := uAll_hd n6 (okB ns G)
    rw [H_MD_lives_25, mm_C, if_pos CL248, mm_I, h.1, if_pos (nI_lt (by omega) (by omega)), ul]
    unfold livA at hQ
    by_cases z1 : z = -1
    · have z0' : z < 0 := by rw [z1]; decide
      rw [if_pos z1] at hQ
      rw [if_pos z0']
      exact hQ I h (FrR_rf _ _ _)
    · obtain ⟨j, j1, j2⟩ := lt_m1 hz z1
      have z0' : ¬ z < 0 := by rw [j2]; exact nI_nn j1
      rw [if_neg z1] at hQ
      rw [if_neg z0']
      rcases hF with ⟨u1, u2, u3⟩ | ⟨c0, m0, u1, u2, u3, u4, u5, u6⟩
      · rw [u1] at uh
        rw [← uh] at hQ
        rw [if_pos u2]
        exact hQ I h (FrR_rf _ _ _)
      · rw [u1] at uh
        rw [← uh] at hQ
        have sl := spl_len c0 m0
        rw [if_neg (by rw [u2]; exact nI_n9 (by omega)), if_pos CL248, u2, u3]
        refine m_isLife h u5 (by omega) hG h12 g6 _ (fun I1 f1 f2 => ?_)
        have hq := hQ I1 (MdR_sc h (FrL_M f2)) (FrM_R (FrL_M f2))
        have hq : Q (some (.int (if z < nI (spl c0 m0).length then nI ((spl c0 m0).getD z.toNatClampNeg 0) else -5))) (mm L I1 J) := hq
        rw [sl] at hq
        rw [u6, if_neg (by decide)]
        by_cases c : z < nI m0
        · rw [if_pos c] at hq
          have jm : j < m0 := by
            rw [j2] at c
            exact (nI_ltI j1 (by omega)).mp c
          rw [if_pos c]
          simp only [mm_C, mm_R, mm_L, mm_I, mm_sI, CL248, CL249, CL250, CL251, CL252, CL253, CL254, CL255, CL256, CL257, CL258, CL259, CL260, CL261, RR248_1, RR248_2, RR248_4, RR248_5, RR248_6, RR248_9, RR248_11, RR248_13, RR248_14, RR248_15, RR248_16, RR248_17, RR248_19, n249, n250, n251, n252, n253, n254, n255, n256, n257, n258, n259, n260, n261, LN249, LN250, LN251, LN252, LN253, LN254, LN255, LN256, LN257, LN258, LN259, LN260, LN261, ↓reduceIte]
          rw [j2, if_pos (show rdI 10 ∧ inb (nI j) 6 from ⟨by decide, inb_nI (by omega) (by omega)⟩), ix_nI j1, f1 j jm]
          rw [j2, ix_nI j1] at hq
          exact hq
        · rw [if_neg c] at hq
          rw [if_neg c]
          exact hq
  | succ r ih =>
    intro k v3 v4 I hk h hG hF hQ
    have n6 := h.2.1.2.2.2.1
    rw [H_MD_lives_25, mm_C, if_pos CL248, mm_I, h.1, if_neg (nI_nlt (by omega) (by omega)), e6, ← Nat.pow_succ]
    have lp := m_lv44 (d := d) (L := L) (J := J) (ns := ns) (ct := ct) (ps := ps) (im := im) (tx := tx) (tr := tr) (G := G) (m := k + 1) (by omega) (by omega) h12 g6 z Q (6 ^ (k + 1)) 0 (uAll ns.length (okB ns G) k) v3 v4 I (by omega) h hG hF (fun U' v3' v4' I' q1 q2 q3 q4 q5 => by
      rw [lif_u, ← uAll_s] at q1
      rw [q1] at q2 ⊢
      exact ih (k + 1) v3' v4' I' (by omega) q3 q4 q2 (fun I'' a b => hQ I'' a (FrR_tr q5 b)))
    rw [nI_0] at lp
    exact lp
end LfM
section LfK
variable {d L : Nat} {I : Nat → Nat → Int32} {J : Nat → Nat → Int64} {ns : List (List Nat)} {ct : List Nat} {ps : List Cp} {im : Nat → Option Cp} {tx : List Nat} {tr : Int64}
theorem m_livesN {z : Int32} (hz : z < -1) (M : Mem) (Q : Int32 → Mem → Prop) : WI (d + 1) i_MD_lives [.ref 248, .int z] M Q ↔ Q (-1) M := by
  rw [E_MD_lives, if_pos hz]
theorem m_livesY (h : MdR I J ns ct ps im tx tr) {z : Int32} (hz : ¬ z < -1) (Q : Int32 → Mem → Prop) (hQ : ∀ I', MdR I' J ns ct ps im tx tr → FrR 248 262 I I' → Q (livA (wAll ns.length (okB ns (tieAll [] ct))) z) (mm L I' J)) : WI (d + 4) i_MD_lives [.ref 248, .int z] (mm L I J) Q := by
  have c12 := h.2.1.2.1
  have gl := tieAll_len ct []
  rw [List.length_nil] at gl
  rw [E_MD_lives, if_neg hz, mm_C, if_pos CL248]
  refine m_layCt h.2.1 _ (fun I1 g1 g2 g3 => ?_)
  have lp := m_lv25 (d := d) (L := L) (J := J) (ns := ns) (ct := ct) (ps := ps) (im := im) (tx := tx) (tr := tr) (G := tieAll [] ct) (by omega) g3 hz (QI Q) ns.length 0 (-9) 0 I1 (by omega) (MdR_sc h g2) g1 (Or.inl ⟨rfl, rfl, rfl⟩) (fun I' a b => hQ I' a (FrR_tr (FrM_R g2) b))
  exact lp
end LfK
