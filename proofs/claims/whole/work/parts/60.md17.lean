/-! ===== the model: tears, undo, bends, keep, back ===== -/
section MD17
variable {d L : Nat} {I : Nat → Nat → Int32} {J : Nat → Nat → Int64} {ns : List (List Nat)} {ct : List Nat} {ps : List Cp} {im : Nat → Option Cp} {tx : List Nat} {tr : Int64}
theorem Ml_ct0 {I' : Nat → Nat → Int32} (h : Ml I 249 0 ns ct) (h0 : I' 249 0 = 0) (hF : ∀ t, 13 ≤ t → I' 249 t = I 249 t) : Ml I' 249 0 ns [] := by
  obtain ⟨a1, a2, a3, a4, a5⟩ := h
  refine ⟨h0, Nat.zero_le _, ⟨fun k hk => absurd hk (Nat.not_lt_zero k), fun x hx => by cases hx⟩, a4, fun e he => ?_⟩
  obtain ⟨b1, b2, b3⟩ := a5 e he
  rw [Nat.zero_add] at b1 b3 ⊢
  exact ⟨by rw [hF _ (by omega)]; exact b1, b2, ⟨fun k hk => by rw [Nat.zero_add, hF _ (by omega)]; exact b3.1 k hk, b3.2⟩⟩
theorem m_tears_loop (v : Int32) (Q : Option Value → Mem → Prop) : ∀ (n k : Nat) (I1 : Nat → Nat → Int32), k + n = 12 → FrN I I1 → I1 249 0 = 0 → (∀ t, 13 ≤ t → I1 249 t = I 249 t) → (∀ I', FrN I I' → I' 249 0 = 0 → (∀ t, 13 ≤ t → I' 249 t = I 249 t) → Q (some (.int v)) (mm L I' J)) → Wn (d + 1) i_MD_tears 20 [(0, .ref 248), (1, .int v), (2, .int (nI k))] [] (mm L I1 J) Q := by
  intro n
  induction n with
  | zero =>
    intro k I1 hk h1 h2 h3 hQ
    rw [show k = 12 by omega, H_MD_tears_20, if_neg (by decide)]
    exact hQ I1 h1 h2 h3
  | succ n ih =>
    intro k I1 hk h1 h2 h3 hQ
    have e : nI k < nI 12 := nI_lt (by omega) (by omega)
    have e : nI k < 12 := e
    have ec : (1 : Int32) + nI k = nI (1 + k) := nI_add 1 _
    rw [H_MD_tears_20, if_pos e, ec, nI_1]
    simp only [mm_C, mm_R, mm_L, mm_I, mm_sI, CL248, CL249, CL250, CL251, CL252, CL253, CL254, CL255, CL256, CL257, CL258, CL259, CL260, CL261, RR248_1, RR248_2, RR248_4, RR248_5, RR248_6, RR248_9, RR248_11, RR248_13, RR248_14, RR248_15, RR248_16, RR248_17, RR248_19, n249, n250, n251, n252, n253, n254, n255, n256, n257, n258, n259, n260, n261, LN249, LN250, LN251, LN252, LN253, LN254, LN255, LN256, LN257, LN258, LN259, LN260, LN261, ↓reduceIte]
    rw [if_pos ⟨trivial, inb_nI (by omega) (by omega)⟩, ix_nI (by omega)]
    refine ih (k + 1) _ (by omega) (fun a ha => ?_) ?_ (fun t ht => ?_) hQ
    · rw [up2_ne _ _ _ ha, h1 a ha]
    · rw [up2_other _ _ _ (by omega)]
      exact h2
    · rw [up2_other _ _ _ (by omega)]
      exact h3 t ht
theorem m_tears (h : MdR I J ns ct ps im tx tr) (Q : Int32 → Mem → Prop) (hQ : ∀ I', MdR I' J ns [] (((ns, ct) :: ps).take 10) im tx tr → FrR 248 262 I I' → Q (nI ct.length) (mm L I' J)) : WI (d + 2) i_MD_tears [.ref 248] (mm L I J) Q := by
  rw [E_MD_tears]
  simp only [mm_C, mm_R, mm_L, mm_I, mm_sI, CL248, CL249, CL250, CL251, CL252, CL253, CL254, CL255, CL256, CL257, CL258, CL259, CL260, CL261, RR248_1, RR248_2, RR248_4, RR248_5, RR248_6, RR248_9, RR248_11, RR248_13, RR248_14, RR248_15, RR248_16, RR248_17, RR248_19, n249, n250, n251, n252, n253, n254, n255, n256, n257, n258, n259, n260, n261, LN249, LN250, LN251, LN252, LN253, LN254, LN255, LN256, LN257, LN258, LN259, LN260, LN261, ↓reduceIte]
  refine m_rem h _ (fun I1 g1 g2 => ?_)
  have z1 : I1 249 0 = nI ct.length := g1.2.1.1
  simp only [mm_C, mm_R, mm_L, mm_I, mm_sI, CL248, CL249, CL250, CL251, CL252, CL253, CL254, CL255, CL256, CL257, CL258, CL259, CL260, CL261, RR248_1, RR248_2, RR248_4, RR248_5, RR248_6, RR248_9, RR248_11, RR248_13, RR248_14, RR248_15, RR248_16, RR248_17, RR248_19, n249, n250, n251, n252, n253, n254, n255, n256, n257, n258, n259, n260, n261, LN249, LN250, LN251, LN252, LN253, LN254, LN255, LN256, LN257, LN258, LN259, LN260, LN261, ↓reduceIte, z0, z1, true_and]
  rw [if_pos ok0, if_pos inb0]
  have := m_tears_loop (d := d + 1) (L := L) (J := J) (I := I1) (nI ct.length) (QI Q) 12 0 (up2 I1 249 0 0) (by omega) (fun a ha => up2_ne _ _ _ ha) (up2_same _ _ _ _) (fun t ht => up2_other _ _ _ (by omega)) (fun I2 f1 f2 f3 => hQ I2 (MdR_cur g1 f1 rfl (Ml_ct0 g1.2.1 f2 f3)) (FrR_tr (FrP_R g2) (FrN_R f1)))
  rw [nI_0] at this
  exact this
theorem m_undo0 (h : MdR I J ns ct [] im tx tr) (Q : Int32 → Mem → Prop) : WI (d + 1) i_MD_undo [.ref 248] (mm L I J) Q ↔ Q (-2) (mm L I J) := by
  have p1 : I 248 3 = 0 := h.2.2.1.1
  rw [E_MD_undo]
  simp only [mm_C, mm_R, mm_L, mm_I, mm_sI, CL248, CL249, CL250, CL251, CL252, CL253, CL254, CL255, CL256, CL257, CL258, CL259, CL260, CL261, RR248_1, RR248_2, RR248_4, RR248_5, RR248_6, RR248_9, RR248_11, RR248_13, RR248_14, RR248_15, RR248_16, RR248_17, RR248_19, n249, n250, n251, n252, n253, n254, n255, n256, n257, n258, n259, n260, n261, LN249, LN250, LN251, LN252, LN253, LN254, LN255, LN256, LN257, LN258, LN259, LN260, LN261, ↓reduceIte, p1]
theorem m_undo {p : Cp} (h : MdR I J ns ct (p :: ps) im tx tr) (hp : p.1.length = ns.length) (Q : Int32 → Mem → Prop) (hQ : ∀ I', MdR I' J p.1 p.2 ps im tx tr → FrR 248 262 I I' → Q (nI ps.length) (mm L I' J)) : WI (d + 1) i_MD_undo [.ref 248] (mm L I J) Q := by
  obtain ⟨a1, a2, ⟨p1, p2, p3⟩, a4, a5, a6⟩ := h
  rw [List.length_cons] at p1 p2
  have i0 : (0 : Int32) = nI 0 := by rw [nI_0]
  have nz : ¬ nI (ps.length + 1) = 0 := nI_ne0 (by omega) (by omega)
  rw [E_MD_undo]
  simp only [mm_C, mm_R, mm_L, mm_I, mm_sI, CL248, CL249, CL250, CL251, CL252, CL253, CL254, CL255, CL256, CL257, CL258, CL259, CL260, CL261, RR248_1, RR248_2, RR248_4, RR248_5, RR248_6, RR248_9, RR248_11, RR248_13, RR248_14, RR248_15, RR248_16, RR248_17, RR248_19, n249, n250, n251, n252, n253, n254, n255, n256, n257, n258, n259, n260, n261, LN249, LN250, LN251, LN252, LN253, LN254, LN255, LN256, LN257, LN258, LN259, LN260, LN261, ↓reduceIte, p1, nz, nI_pred, up2_same, e91]
  rw [i0]
  refine m_copC (by omega) CL250 CL249 (LN250 L) (LN249 L) (by omega) (by omega) (by omega) (by omega) ?_
  have u3 : cpN (up2 I 248 3 (nI ps.length)) 250 (91 * ps.length) 249 0 91 248 3 = nI ps.length := by rw [cpN_ne _ (by omega), up2_same]
  simp only [mm_C, mm_R, mm_L, mm_I, mm_sI, CL248, CL249, CL250, CL251, CL252, CL253, CL254, CL255, CL256, CL257, CL258, CL259, CL260, CL261, RR248_1, RR248_2, RR248_4, RR248_5, RR248_6, RR248_9, RR248_11, RR248_13, RR248_14, RR248_15, RR248_16, RR248_17, RR248_19, n249, n250, n251, n252, n253, n254, n255, n256, n257, n258, n259, n260, n261, LN249, LN250, LN251, LN252, LN253, LN254, LN255, LN256, LN257, LN258, LN259, LN260, LN261, ↓reduceIte, u3]
  have k1 : ∀ a, a ≠ 248 → a ≠ 249 → cpN (up2 I 248 3 (nI ps.length)) 250 (91 * ps.length) 249 0 91 a = I a := fun a h1 h2 => by rw [cpN_ne _ h2, up2_ne _ _ _ h1]
  have k2 : ∀ k, k ≠ 3 → cpN (up2 I 248 3 (nI ps.length)) 250 (91 * ps.length) 249 0 91 248 k = I 248 k := fun k hk => by rw [cpN_ne _ (by omega), up2_other _ _ _ hk]
  have q0 := p3 0 (by rw [List.length_cons]; omega)
  rw [List.length_cons, show ps.length + 1 - 1 - 0 = ps.length by omega] at q0
  refine hQ _ ⟨by rw [k2 0 (by omega), hp]; exact a1, Ml_mv (a := 250) (i := 91 * ps.length) (fun t ht => ?_) q0, ⟨u3, by omega, fun i hi => ?_⟩, ImM_fr (k1 252 (by omega) (by omega)) (k1 251 (by omega) (by omega)) a4, TxM_fr (k2 7 (by omega)) (k1 253 (by omega) (by omega)) a5, a6⟩ (fun a q => k1 a (by omega) (by omega))
  · rw [cpN_at _ ht, up2_ne _ _ _ (by omega)]
  · have := p3 (i + 1) (by rw [List.length_cons]; omega)
    rw [List.length_cons, show ps.length + 1 - 1 - (i + 1) = ps.length - 1 - i by omega] at this
    exact Ml_fr (k1 250 (by omega) (by omega)) this
theorem m_keepN {x : Int32} (hx : x < 0 ∨ 1 < x) (M : Mem) (Q : Int32 → Mem → Prop) : WI (d + 2) i_MD_keep [.ref 248, .int x] M Q ↔ Q (-1) M := by
  rw [E_MD_keep, m_isTwo, nw_12 hx, if_pos (by rfl)]
theorem m_backN {x : Int32} (hx : x < 0 ∨ 1 < x) (M : Mem) (Q : Int32 → Mem → Prop) : WI (d + 2) i_MD_back [.ref 248, .int x] M Q ↔ Q (-1) M := by
  rw [E_MD_back, m_isTwo, nw_12 hx, if_pos (by rfl)]
theorem m_keepY (h : MdR I J ns ct ps im tx tr) {m : Nat} (hm : m < 2) (Q : Int32 → Mem → Prop) (hQ : ∀ I', MdR I' J ns ct ps (fun k => if k = m then some (ns, ct) else im k) tx tr → FrR 248 262 I I' → Q (nI (sumL ns ns.length 0)) (mm L I' J)) : WI (d + 2) i_MD_keep [.ref 248, .int (nI m)] (mm L I J) Q := by
  obtain ⟨a1, a2, a3, a4, a5, a6⟩ := id h
  have i0 : (0 : Int32) = nI 0 := by rw [nI_0]
  rw [E_MD_keep, m_isTwo, w01 hm, if_neg (by decide)]
  simp only [mm_C, mm_R, mm_L, mm_I, mm_sI, CL248, CL249, CL250, CL251, CL252, CL253, CL254, CL255, CL256, CL257, CL258, CL259, CL260, CL261, RR248_1, RR248_2, RR248_4, RR248_5, RR248_6, RR248_9, RR248_11, RR248_13, RR248_14, RR248_15, RR248_16, RR248_17, RR248_19, n249, n250, n251, n252, n253, n254, n255, n256, n257, n258, n259, n260, n261, LN249, LN250, LN251, LN252, LN253, LN254, LN255, LN256, LN257, LN258, LN259, LN260, LN261, ↓reduceIte, e91]
  refine m_copC (i := 0) (by omega) CL249 CL251 (LN249 L) (LN251 L) (by omega) (by omega) (by omega) (by omega) ?_
  simp only [mm_C, mm_R, mm_L, mm_I, mm_sI, CL248, CL249, CL250, CL251, CL252, CL253, CL254, CL255, CL256, CL257, CL258, CL259, CL260, CL261, RR248_1, RR248_2, RR248_4, RR248_5, RR248_6, RR248_9, RR248_11, RR248_13, RR248_14, RR248_15, RR248_16, RR248_17, RR248_19, n249, n250, n251, n252, n253, n254, n255, n256, n257, n258, n259, n260, n261, LN249, LN250, LN251, LN252, LN253, LN254, LN255, LN256, LN257, LN258, LN259, LN260, LN261, ↓reduceIte, vpb1]
  rw [if_pos ⟨trivial, inb_nI (by omega) (by omega)⟩, ix_nI (by omega)]
  have k1 : ∀ a, a ≠ 251 → a ≠ 252 → up2 (cpN I 249 0 251 (91 * m) 91) 252 m 1 a = I a := fun a h1 h2 => by rw [up2_ne _ _ _ h2, cpN_ne _ h1]
  have e8 := k1 248 (by omega) (by omega)
  have hm2 : Ml (up2 (cpN I 249 0 251 (91 * m) 91) 252 m 1) 249 0 ns ct := Ml_fr (k1 249 (by omega) (by omega)) a2
  rw [m_turns (by rw [e8]; exact a1) hm2]
  refine hQ _ ⟨by rw [e8]; exact a1, hm2, PmR_fr (by rw [e8]) (k1 250 (by omega) (by omega)) a3, fun m' hm' => ?_, TxM_fr (by rw [e8]) (k1 253 (by omega) (by omega)) a5, a6⟩ (fun a q => k1 a (by omega) (by omega))
  show up2 (cpN I 249 0 251 (91 * m) 91) 252 m 1 252 m' = bI (if m' = m then some (ns, ct) else im m').isSome ∧ ∀ p, (if m' = m then some (ns, ct) else im m') = some p → Ml (up2 (cpN I 249 0 251 (91 * m) 91) 252 m 1) 251 (91 * m') p.1 p.2
  by_cases e : m' = m
  · rw [if_pos e, e, up2_same]
    refine ⟨rfl, fun p hp => ?_⟩
    have hp := Option.some.inj hp
    rw [← hp]
    refine Ml_mv (a := 249) (i := 0) (fun t ht => ?_) a2
    rw [up2_ne _ _ _ (by omega), cpN_at _ ht]
  · rw [if_neg e, up2_other _ _ _ e, cpN_ne _ (by omega)]
    refine ⟨(a4 m' hm').1, fun p hp => ?_⟩
    refine Ml_mv (a := 251) (i := 91 * m') (fun t ht => ?_) ((a4 m' hm').2 p hp)
    rw [up2_ne _ _ _ (by omega), cpN_out _ (by omega)]
theorem m_backE (h : MdR I J ns ct ps im tx tr) {m : Nat} (hm : m < 2) (hn : im m = none) (Q : Int32 → Mem → Prop) : WI (d + 2) i_MD_back [.ref 248, .int (nI m)] (mm L I J) Q ↔ Q (-2) (mm L I J) := by
  have a4 := (h.2.2.2.1 m hm).1
  rw [hn] at a4
  have a4 : I 252 m = 0 := a4
  rw [E_MD_back, m_isTwo, w01 hm, if_neg (by decide)]
  simp only [mm_C, mm_R, mm_L, mm_I, mm_sI, CL248, CL249, CL250, CL251, CL252, CL253, CL254, CL255, CL256, CL257, CL258, CL259, CL260, CL261, RR248_1, RR248_2, RR248_4, RR248_5, RR248_6, RR248_9, RR248_11, RR248_13, RR248_14, RR248_15, RR248_16, RR248_17, RR248_19, n249, n250, n251, n252, n253, n254, n255, n256, n257, n258, n259, n260, n261, LN249, LN250, LN251, LN252, LN253, LN254, LN255, LN256, LN257, LN258, LN259, LN260, LN261, ↓reduceIte]
  rw [if_pos ⟨by decide, inb_nI hm (by omega)⟩, if_pos (by rw [ix_nI (by omega)]; exact a4)]
theorem m_backY (h : MdR I J ns ct ps im tx tr) {m : Nat} (hm : m < 2) {p : Cp} (hn : im m = some p) (hp : p.1.length = ns.length) (Q : Int32 → Mem → Prop) (hQ : ∀ I', MdR I' J p.1 p.2 [] im tx tr → FrR 248 262 I I' → Q (nI (sumL p.1 p.1.length 0)) (mm L I' J)) : WI (d + 2) i_MD_back [.ref 248, .int (nI m)] (mm L I J) Q := by
  obtain ⟨a1, a2, a3, a4, a5, a6⟩ := id h
  obtain ⟨b5, b6⟩ := a4 m hm
  rw [hn] at b5
  have b5 : I 252 m = 1 := b5
  have b6 := b6 p hn
  have i0 : (0 : Int32) = nI 0 := by rw [nI_0]
  have b7 : ¬ I 252 (nI m).toNatClampNeg = 0 := by rw [ix_nI (by omega), b5]; decide
  rw [E_MD_back, m_isTwo, w01 hm, if_neg (by decide)]
  simp only [mm_C, mm_R, mm_L, mm_I, mm_sI, CL248, CL249, CL250, CL251, CL252, CL253, CL254, CL255, CL256, CL257, CL258, CL259, CL260, CL261, RR248_1, RR248_2, RR248_4, RR248_5, RR248_6, RR248_9, RR248_11, RR248_13, RR248_14, RR248_15, RR248_16, RR248_17, RR248_19, n249, n250, n251, n252, n253, n254, n255, n256, n257, n258, n259, n260, n261, LN249, LN250, LN251, LN252, LN253, LN254, LN255, LN256, LN257, LN258, LN259, LN260, LN261, ↓reduceIte, e91]
  rw [if_pos ⟨by decide, inb_nI hm (by omega)⟩, if_neg b7, i0]
  refine m_copC (by omega) CL251 CL249 (LN251 L) (LN249 L) (by omega) (by omega) (by omega) (by omega) ?_
  simp only [mm_C, mm_R, mm_L, mm_I, mm_sI, CL248, CL249, CL250, CL251, CL252, CL253, CL254, CL255, CL256, CL257, CL258, CL259, CL260, CL261, RR248_1, RR248_2, RR248_4, RR248_5, RR248_6, RR248_9, RR248_11, RR248_13, RR248_14, RR248_15, RR248_16, RR248_17, RR248_19, n249, n250, n251, n252, n253, n254, n255, n256, n257, n258, n259, n260, n261, LN249, LN250, LN251, LN252, LN253, LN254, LN255, LN256, LN257, LN258, LN259, LN260, LN261, ↓reduceIte, nI_0]
  have k1 : ∀ a, a ≠ 248 → a ≠ 249 → up2 (cpN I 251 (91 * m) 249 0 91) 248 3 0 a = I a := fun a h1 h2 => by rw [up2_ne _ _ _ h1, cpN_ne _ h2]
  have k2 : ∀ k, k ≠ 3 → up2 (cpN I 251 (91 * m) 249 0 91) 248 3 0 248 k = I 248 k := fun k hk => by rw [up2_other _ _ _ hk, cpN_ne _ (by omega)]
  have hm2 : Ml (up2 (cpN I 251 (91 * m) 249 0 91) 248 3 0) 249 0 p.1 p.2 := by
    refine Ml_mv (a := 251) (i := 91 * m) (fun t ht => ?_) b6
    rw [up2_ne _ _ _ (by omega), cpN_at _ ht]
  have hr : up2 (cpN I 251 (91 * m) 249 0 91) 248 3 0 248 0 = nI p.1.length := by rw [k2 0 (by omega), hp]; exact a1
  rw [m_turns hr hm2]
  exact hQ _ ⟨hr, hm2, ⟨up2_same _ _ _ _, Nat.zero_le _, fun i hi => absurd hi (Nat.not_lt_zero i)⟩, ImM_fr (k1 252 (by omega) (by omega)) (k1 251 (by omega) (by omega)) a4, TxM_fr (k2 7 (by omega)) (k1 253 (by omega) (by omega)) a5, a6⟩ (fun a q => k1 a (by omega) (by omega))
theorem m_bendN (h : MdR I J ns ct ps im tx tr) {x y : Int32} (hx : x < 0 ∨ nI ns.length ≤ x) (Q : Int32 → Mem → Prop) : WI (d + 2) i_MD_bends [.ref 248, .int x, .int y] (mm L I J) Q ↔ Q (-1) (mm L I J) := by
  rw [E_MD_bends, mm_C, if_pos CL248, m_herdN h hx, if_pos rfl]
theorem m_bendN2 (h : MdR I J ns ct ps im tx tr) {a : Nat} (ha : a < ns.length) {y : Int32} (hy : y < 0 ∨ nI ns.length ≤ y) (Q : Int32 → Mem → Prop) : WI (d + 2) i_MD_bends [.ref 248, .int (nI a), .int y] (mm L I J) Q ↔ Q (-1) (mm L I J) := by
  rw [E_MD_bends, mm_C, if_pos CL248, m_herdY h ha, if_neg i10, mm_C, if_pos CL248, m_herdN h hy, if_pos rfl]
theorem m_bendN3 (h : MdR I J ns ct ps im tx tr) {a : Nat} (ha : a < ns.length) (Q : Int32 → Mem → Prop) : WI (d + 2) i_MD_bends [.ref 248, .int (nI a), .int (nI a)] (mm L I J) Q ↔ Q (-1) (mm L I J) := by
  rw [E_MD_bends, mm_C, if_pos CL248, m_herdY h ha, if_neg i10, mm_C, if_pos CL248, m_herdY h ha, if_neg i10, if_pos rfl]
/-- the cell a holds l from its start on -/
def Oh (I : Nat → Nat → Int32) (a : Nat) (l : List Nat) (n : Nat) : Prop := ∀ k, k < n → I a k = nI (l.getD k 0)
theorem bnd_end {I : Nat → Nat → Int32} {a b v : Nat} {o : List Nat} (ha : a < ns.length) (hb : b < ns.length) (hne : a ≠ b) (ho6 : ∀ x ∈ o, x < 6) (ho : o.length ≤ 12) (hT : Tg o) (Q : Option Value → Mem → Prop) : ∀ (n k : Nat) (I1 : Nat → Nat → Int32), k + n = o.length → MdR I1 J ns ct ps im tx tr → Oh I1 256 o o.length → Cd I1 (o.take k) → (nmO ns a).length = v → (∀ I', MdR I' J (ns.set b o) ct ps im tx tr → FrR 248 262 I1 I' → Q (some (.int (nI v))) (mm L I' J)) →
    Wn (d + 1) i_MD_bends 125 [(0, .ref 248), (1, .int (nI a)), (2, .int (nI b)), (3, .int (nI o.length)), (4, .int (nI k))] [] (mm L I1 J) Q := by
  intro n
  induction n with
  | zero =>
    intro k I1 hk h hO hc hv hQ
    have h6 := h.2.1.2.2.2.1
    rw [H_MD_bends_125, if_neg (nI_nlt (by omega) (by omega))]
    simp only [mm_C, mm_R, mm_L, mm_I, mm_sI, CL248, CL249, CL250, CL251, CL252, CL253, CL254, CL255, CL256, CL257, CL258, CL259, CL260, CL261, RR248_1, RR248_2, RR248_4, RR248_5, RR248_6, RR248_9, RR248_11, RR248_13, RR248_14, RR248_15, RR248_16, RR248_17, RR248_19, n249, n250, n251, n252, n253, n254, n255, n256, n257, n258, n259, n260, n261, LN249, LN250, LN251, LN252, LN253, LN254, LN255, LN256, LN257, LN258, LN259, LN260, LN261, ↓reduceIte]
    rw [show k = o.length by omega, List.take_length] at hc
    refine m_lay hc ho h.2.1 hb _ (fun I2 f1 f2 => ?_)
    rw [e13]
    simp only [mm_C, mm_R, mm_L, mm_I, mm_sI, CL248, CL249, CL250, CL251, CL252, CL253, CL254, CL255, CL256, CL257, CL258, CL259, CL260, CL261, RR248_1, RR248_2, RR248_4, RR248_5, RR248_6, RR248_9, RR248_11, RR248_13, RR248_14, RR248_15, RR248_16, RR248_17, RR248_19, n249, n250, n251, n252, n253, n254, n255, n256, n257, n258, n259, n260, n261, LN249, LN250, LN251, LN252, LN253, LN254, LN255, LN256, LN257, LN258, LN259, LN260, LN261, ↓reduceIte]
    rw [if_pos (ok13 (by omega)), mlen f1 (by rw [List.length_set]; exact ha), nmO_setn _ _ (Ne.symm hne), hv]
    exact hQ I2 (MdR_cur h f2 (List.length_set ..) f1) (FrN_R f2)
  | succ n ih =>
    intro k I1 hk h hO hc hv hQ
    have x6 : o.getD k 0 < 6 := by
      apply ho6
      rw [List.getD_eq_getElem?_getD, List.getElem?_eq_getElem (by omega)]
      exact List.getElem_mem _
    have tl : (o.take k).length = k := by rw [List.length_take]; omega
    rw [H_MD_bends_125, if_pos (nI_lt (by omega) (by omega)), nI_1]
    simp only [mm_C, mm_R, mm_L, mm_I, mm_sI, CL248, CL249, CL250, CL251, CL252, CL253, CL254, CL255, CL256, CL257, CL258, CL259, CL260, CL261, RR248_1, RR248_2, RR248_4, RR248_5, RR248_6, RR248_9, RR248_11, RR248_13, RR248_14, RR248_15, RR248_16, RR248_17, RR248_19, n249, n250, n251, n252, n253, n254, n255, n256, n257, n258, n259, n260, n261, LN249, LN250, LN251, LN252, LN253, LN254, LN255, LN256, LN257, LN258, LN259, LN260, LN261, ↓reduceIte]
    rw [if_pos ⟨by decide, inb_nI (by omega) (by omega)⟩, ix_nI (by omega), hO k (by omega)]
    refine m_tie hc (by omega) x6 _ (fun I2 f1 f2 => ?_)
    have e : tie (o.take k) (o.getD k 0) = o.take (k + 1) := by
      have := tieAll_take (l := []) (m := o) (j := k) (by omega)
      rw [tieAll_take_self hT _ (by omega), tieAll_take_self hT _ (by omega)] at this
      exact this.symm
    rw [e] at f1
    exact ih (k + 1) I2 (by omega) (MdR_sc h (FrM_K f2)) (fun j hj => by rw [f2.1 256 (by omega) (by omega)]; exact hO j hj) f1 hv (fun I' g1 g2 => hQ I' g1 (FrR_tr (FrM_R (FrM_K f2)) g2))
theorem bnd_mid {o : List Nat} {a b : Nat} (ha : a < ns.length) (hb : b < ns.length) (hne : a ≠ b) (hTa : Tg (nmO ns a)) (ho6 : ∀ x ∈ o, x < 6) (ho : o.length ≤ 24) (hT : Tg o) (Q : Option Value → Mem → Prop)
    (hF : ¬ ((tieAll (nmO ns a) (nmO ns b)).length ≤ 12 ∧ o.length ≤ 12) → ∀ I', MdR I' J ns ct ps im tx tr → FrR 248 262 I I' → Q (some (.int (-3))) (mm L I' J))
    (hY : (tieAll (nmO ns a) (nmO ns b)).length ≤ 12 → o.length ≤ 12 → ∀ I', MdR I' J ((ns.set a (tieAll (nmO ns a) (nmO ns b))).set b o) ct (((ns, ct) :: ps).take 10) im tx tr → FrR 248 262 I I' → Q (some (.int (nI (tieAll (nmO ns a) (nmO ns b)).length))) (mm L I' J)) : ∀ (n k : Nat) (I1 : Nat → Nat → Int32), k + n = o.length → MdR I1 J ns ct ps im tx tr → Cd I1 o → Oh I1 256 o k → FrM I I1 →
    Wn (d + 3) i_MD_bends 46 [(0, .ref 248), (1, .int (nI a)), (2, .int (nI b)), (3, .int (nI o.length)), (4, .int (nI k))] [] (mm L I1 J) Q := by
  intro n
  induction n with
  | zero =>
    intro k I1 hk h hc hO F1
    have la := mle h.2.1 ha
    have lb := mle h.2.1 hb
    have tl := tieAll_len (nmO ns b) (nmO ns a)
    rw [show k = o.length by omega] at hO
    rw [H_MD_bends_46]
    simp only [mm_C, mm_R, mm_L, mm_I, mm_sI, CL248, CL249, CL250, CL251, CL252, CL253, CL254, CL255, CL256, CL257, CL258, CL259, CL260, CL261, RR248_1, RR248_2, RR248_4, RR248_5, RR248_6, RR248_9, RR248_11, RR248_13, RR248_14, RR248_15, RR248_16, RR248_17, RR248_19, n249, n250, n251, n252, n253, n254, n255, n256, n257, n258, n259, n260, n261, LN249, LN250, LN251, LN252, LN253, LN254, LN255, LN256, LN257, LN258, LN259, LN260, LN261, ↓reduceIte, hc.1]
    rw [if_neg (nI_nlt (by omega) (by omega))]
    have h0 := MdR_sc h (FrM_K (FrK_0 (I := I1) (v := 0)))
    refine m_tieName h0.2.1 ha Cd_0 (by rw [List.length_nil]; omega) _ (fun I2 f1 f2 => ?_)
    rw [tieAll_self hTa] at f1
    simp only [mm_C, mm_R, mm_L, mm_I, mm_sI, CL248, CL249, CL250, CL251, CL252, CL253, CL254, CL255, CL256, CL257, CL258, CL259, CL260, CL261, RR248_1, RR248_2, RR248_4, RR248_5, RR248_6, RR248_9, RR248_11, RR248_13, RR248_14, RR248_15, RR248_16, RR248_17, RR248_19, n249, n250, n251, n252, n253, n254, n255, n256, n257, n258, n259, n260, n261, LN249, LN250, LN251, LN252, LN253, LN254, LN255, LN256, LN257, LN258, LN259, LN260, LN261, ↓reduceIte]
    have h2 := MdR_sc h0 (FrM_K f2)
    refine m_tieName h2.2.1 hb f1 (by omega) _ (fun I3 g1 g2 => ?_)
    have h3 := MdR_sc h2 (FrM_K g2)
    have F3 : FrM I I3 := FrM_tr F1 (FrM_tr (FrM_K FrK_0) (FrM_tr (FrM_K f2) (FrM_K g2)))
    have O3 : Oh I3 256 o o.length := fun j hj => by rw [g2.1 256 (by omega) (by omega), f2.1 256 (by omega) (by omega), up2_ne _ _ _ (by omega)]; exact hO j hj
    simp only [mm_C, mm_R, mm_L, mm_I, mm_sI, CL248, CL249, CL250, CL251, CL252, CL253, CL254, CL255, CL256, CL257, CL258, CL259, CL260, CL261, RR248_1, RR248_2, RR248_4, RR248_5, RR248_6, RR248_9, RR248_11, RR248_13, RR248_14, RR248_15, RR248_16, RR248_17, RR248_19, n249, n250, n251, n252, n253, n254, n255, n256, n257, n258, n259, n260, n261, LN249, LN250, LN251, LN252, LN253, LN254, LN255, LN256, LN257, LN258, LN259, LN260, LN261, ↓reduceIte, g1.1]
    by_cases e1 : (tieAll (nmO ns a) (nmO ns b)).length ≤ 12
    · have x1 : ¬ nI 12 < nI (tieAll (nmO ns a) (nmO ns b)).length := nI_nlt e1 (by omega)
      have x1 : ¬ 12 < nI (tieAll (nmO ns a) (nmO ns b)).length := x1
      rw [if_neg x1]
      by_cases e2 : o.length ≤ 12
      · have x2 : ¬ nI 12 < nI o.length := nI_nlt e2 (by omega)
        have x2 : ¬ 12 < nI o.length := x2
        rw [if_neg x2]
        refine m_rem h3 _ (fun I4 p1 p2 => ?_)
        have c4 := Cd_P g1 p2
        simp only [mm_C, mm_R, mm_L, mm_I, mm_sI, CL248, CL249, CL250, CL251, CL252, CL253, CL254, CL255, CL256, CL257, CL258, CL259, CL260, CL261, RR248_1, RR248_2, RR248_4, RR248_5, RR248_6, RR248_9, RR248_11, RR248_13, RR248_14, RR248_15, RR248_16, RR248_17, RR248_19, n249, n250, n251, n252, n253, n254, n255, n256, n257, n258, n259, n260, n261, LN249, LN250, LN251, LN252, LN253, LN254, LN255, LN256, LN257, LN258, LN259, LN260, LN261, ↓reduceIte]
        refine m_lay c4 e1 p1.2.1 ha _ (fun I5 r1 r2 => ?_)
        have h5 := MdR_cur p1 r2 (List.length_set ..) r1
        have h6 := MdR_sc h5 (FrM_K (FrK_0 (I := I5) (v := 0)))
        have O5 : Oh (up2 I5 248 10 0) 256 o o.length := fun j hj => by rw [up2_ne _ _ _ (by omega), r2 256 (by omega), p2.1 256 (by omega) (by omega)]; exact O3 j hj
        simp only [mm_C, mm_R, mm_L, mm_I, mm_sI, CL248, CL249, CL250, CL251, CL252, CL253, CL254, CL255, CL256, CL257, CL258, CL259, CL260, CL261, RR248_1, RR248_2, RR248_4, RR248_5, RR248_6, RR248_9, RR248_11, RR248_13, RR248_14, RR248_15, RR248_16, RR248_17, RR248_19, n249, n250, n251, n252, n253, n254, n255, n256, n257, n258, n259, n260, n261, LN249, LN250, LN251, LN252, LN253, LN254, LN255, LN256, LN257, LN258, LN259, LN260, LN261, ↓reduceIte]
        have := bnd_end (d := d + 2) (L := L) (I := I) (J := J) (ns := ns.set a (tieAll (nmO ns a) (nmO ns b))) (ct := ct) (ps := ((ns, ct) :: ps).take 10) (im := im) (tx := tx) (tr := tr) (a := a) (b := b) (v := (tieAll (nmO ns a) (nmO ns b)).length) (by rw [List.length_set]; exact ha) (by rw [List.length_set]; exact hb) hne ho6 e2 hT Q o.length 0 (up2 I5 248 10 0) (by omega) h6 O5 Cd_0 (by rw [nmO_set _ _ ha]) (fun I' q1 q2 => hY e1 e2 I' q1 (FrR_tr (FrM_R F3) (FrR_tr (FrP_R p2) (FrR_tr (FrN_R r2) (FrR_tr (FrM_R (FrM_K FrK_0)) q2)))))
        rw [nI_0] at this
        exact this
      · have x2 : nI 12 < nI o.length := nI_lt (by omega) (by omega)
        have x2 : 12 < nI o.length := x2
        rw [if_pos x2]
        exact hF (fun q => e2 q.2) I3 h3 (FrM_R F3)
    · have x1 : nI 12 < nI (tieAll (nmO ns a) (nmO ns b)).length := nI_lt (by omega) (by omega)
      have x1 : 12 < nI (tieAll (nmO ns a) (nmO ns b)).length := x1
      rw [if_pos x1]
      exact hF (fun q => e1 q.1) I3 h3 (FrM_R F3)
  | succ n ih =>
    intro k I1 hk h hc hO F1
    rw [H_MD_bends_46]
    simp only [mm_C, mm_R, mm_L, mm_I, mm_sI, CL248, CL249, CL250, CL251, CL252, CL253, CL254, CL255, CL256, CL257, CL258, CL259, CL260, CL261, RR248_1, RR248_2, RR248_4, RR248_5, RR248_6, RR248_9, RR248_11, RR248_13, RR248_14, RR248_15, RR248_16, RR248_17, RR248_19, n249, n250, n251, n252, n253, n254, n255, n256, n257, n258, n259, n260, n261, LN249, LN250, LN251, LN252, LN253, LN254, LN255, LN256, LN257, LN258, LN259, LN260, LN261, ↓reduceIte, hc.1]
    rw [if_pos (nI_lt (by omega) (by omega)), if_pos ⟨by decide, inb_nI (by omega) (by omega)⟩, if_pos ⟨trivial, inb_nI (by omega) (by omega)⟩, ix_nI (by omega), hc.2.1 k (by omega), nI_1]
    have F2 : FrM I1 (up2 I1 256 k (nI (o.getD k 0))) := FrM_u (by omega) (by omega)
    refine ih (k + 1) _ (by omega) (MdR_sc h F2) ⟨by rw [up2_ne _ _ _ (by omega)]; exact hc.1, fun j hj => by rw [up2_ne _ _ _ (by omega)]; exact hc.2.1 j hj, hc.2.2⟩ (fun j hj => ?_) (FrM_tr F1 F2)
    by_cases e : j = k
    · rw [e, up2_same]
    · rw [up2_other _ _ _ e]
      exact hO j (by omega)
theorem m_bend (h : MdR I J ns ct ps im tx tr) {a b : Nat} (ha : a < ns.length) (hb : b < ns.length) (hne : a ≠ b) (hTa : Tg (nmO ns a)) (hTb : Tg (nmO ns b)) (Q : Int32 → Mem → Prop)
    (hF : ¬ ((joi (nmO ns a) (nmO ns b)).length ≤ 12 ∧ (joi (nmO ns b) (nmO ns a)).length ≤ 12) → ∀ I', MdR I' J ns ct ps im tx tr → FrR 248 262 I I' → Q (-3) (mm L I' J))
    (hY : (joi (nmO ns a) (nmO ns b)).length ≤ 12 → (joi (nmO ns b) (nmO ns a)).length ≤ 12 → ∀ I', MdR I' J ((ns.set a (joi (nmO ns a) (nmO ns b))).set b (joi (nmO ns b) (nmO ns a))) ct (((ns, ct) :: ps).take 10) im tx tr → FrR 248 262 I I' → Q (nI (joi (nmO ns a) (nmO ns b)).length) (mm L I' J)) : WI (d + 3) i_MD_bends [.ref 248, .int (nI a), .int (nI b)] (mm L I J) Q := by
  have h6 := h.2.1.2.2.2.1
  have la := mle h.2.1 ha
  have lb := mle h.2.1 hb
  have tl := tieAll_len (nmO ns a) (nmO ns b)
  have ja : joi (nmO ns a) (nmO ns b) = tieAll (nmO ns a) (nmO ns b) := by unfold joi; rw [tieAll_self hTa]
  have jb : joi (nmO ns b) (nmO ns a) = tieAll (nmO ns b) (nmO ns a) := by unfold joi; rw [tieAll_self hTb]
  rw [ja, jb] at hF hY
  rw [E_MD_bends, mm_C, if_pos CL248, m_herdY h ha, if_neg i10, mm_C, if_pos CL248, m_herdY h hb, if_neg i10, if_neg (fun q => hne ((nI_eq (by omega) (by omega)).mp q))]
  simp only [mm_C, mm_R, mm_L, mm_I, mm_sI, CL248, CL249, CL250, CL251, CL252, CL253, CL254, CL255, CL256, CL257, CL258, CL259, CL260, CL261, RR248_1, RR248_2, RR248_4, RR248_5, RR248_6, RR248_9, RR248_11, RR248_13, RR248_14, RR248_15, RR248_16, RR248_17, RR248_19, n249, n250, n251, n252, n253, n254, n255, n256, n257, n258, n259, n260, n261, LN249, LN250, LN251, LN252, LN253, LN254, LN255, LN256, LN257, LN258, LN259, LN260, LN261, ↓reduceIte]
  have h0 := MdR_sc h (FrM_K (FrK_0 (I := I) (v := 0)))
  refine m_tieName h0.2.1 hb Cd_0 (by rw [List.length_nil]; omega) _ (fun I2 f1 f2 => ?_)
  rw [tieAll_self hTb] at f1
  simp only [mm_C, mm_R, mm_L, mm_I, mm_sI, CL248, CL249, CL250, CL251, CL252, CL253, CL254, CL255, CL256, CL257, CL258, CL259, CL260, CL261, RR248_1, RR248_2, RR248_4, RR248_5, RR248_6, RR248_9, RR248_11, RR248_13, RR248_14, RR248_15, RR248_16, RR248_17, RR248_19, n249, n250, n251, n252, n253, n254, n255, n256, n257, n258, n259, n260, n261, LN249, LN250, LN251, LN252, LN253, LN254, LN255, LN256, LN257, LN258, LN259, LN260, LN261, ↓reduceIte]
  have h2 := MdR_sc h0 (FrM_K f2)
  refine m_tieName h2.2.1 ha f1 (by omega) _ (fun I3 g1 g2 => ?_)
  have h3 := MdR_sc h2 (FrM_K g2)
  simp only [mm_C, mm_R, mm_L, mm_I, mm_sI, CL248, CL249, CL250, CL251, CL252, CL253, CL254, CL255, CL256, CL257, CL258, CL259, CL260, CL261, RR248_1, RR248_2, RR248_4, RR248_5, RR248_6, RR248_9, RR248_11, RR248_13, RR248_14, RR248_15, RR248_16, RR248_17, RR248_19, n249, n250, n251, n252, n253, n254, n255, n256, n257, n258, n259, n260, n261, LN249, LN250, LN251, LN252, LN253, LN254, LN255, LN256, LN257, LN258, LN259, LN260, LN261, ↓reduceIte, g1.1]
  have := bnd_mid (d := d) (L := L) (I := I) (J := J) (ct := ct) (ps := ps) (im := im) (tx := tx) (tr := tr) (o := tieAll (nmO ns b) (nmO ns a)) ha hb hne hTa g1.2.2 (by omega) (Tg_tieAll _ _ hTb) (QI Q) hF hY (tieAll (nmO ns b) (nmO ns a)).length 0 I3 (by omega) h3 g1 (fun j hj => absurd hj (Nat.not_lt_zero j)) (FrM_tr (FrM_K FrK_0) (FrM_tr (FrM_K f2) (FrM_K g2)))
  rw [nI_0] at this
  exact this
end MD17
