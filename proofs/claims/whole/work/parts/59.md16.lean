/-! ===== the model: laying a name, the deeds ===== -/
section MD16
variable {d L : Nat} {I : Nat → Nat → Int32} {J : Nat → Nat → Int64} {ns : List (List Nat)} {ct : List Nat} {ps : List Cp} {im : Nat → Option Cp} {tx : List Nat} {tr : Int64}
theorem Cd_6 {l : List Nat} (h : Cd I l) {k : Nat} (hk : k < l.length) : l.getD k 0 < 6 := by
  apply h.2.2
  rw [List.getD_eq_getElem?_getD, List.getElem?_eq_getElem hk]
  exact List.getElem_mem hk
theorem Cd_0 : Cd (up2 I 248 10 0) [] := ⟨by rw [up2_same]; rfl, fun k hk => absurd hk (Nat.not_lt_zero k), fun x hx => by cases hx⟩
theorem FrK_0 {v : Int32} : FrK I (up2 I 248 10 v) := ⟨fun a h1 _ => up2_ne _ _ _ h1, fun k hk => up2_other _ _ _ hk⟩
theorem Cd_P {I' : Nat → Nat → Int32} {l : List Nat} (h : Cd I l) (F : FrP I I') : Cd I' l := ⟨by rw [F.2 10 (by omega)]; exact h.1, fun k hk => by rw [F.1 254 (by omega) (by omega)]; exact h.2.1 k hk, h.2.2⟩
theorem Ml_K {I' : Nat → Nat → Int32} (h : Ml I 249 0 ns ct) (F : FrK I I') : Ml I' 249 0 ns ct := Ml_fr (F.1 249 (by omega) (by omega)) h
theorem Ml_set {I' : Nat → Nat → Int32} {j : Nat} {l : List Nat} (h : Ml I 249 0 ns ct) (hj : j < ns.length) (h1 : I' 249 (13 + j) = nI l.length) (h2 : ∀ k, k < l.length → I' 249 (19 + 12 * j + k) = nI (l.getD k 0)) (h3 : ∀ x ∈ l, x < 6) (h4 : l.length ≤ 12) (hF : ∀ t, t ≠ 13 + j → (t < 19 + 12 * j ∨ 31 + 12 * j ≤ t) → I' 249 t = I 249 t) : Ml I' 249 0 (ns.set j l) ct := by
  obtain ⟨a1, a2, a3, a4, a5⟩ := h
  refine ⟨by rw [hF 0 (by omega) (by omega)]; exact a1, a2, ⟨fun k hk => by rw [hF _ (by omega) (by omega)]; exact a3.1 k hk, a3.2⟩, by rw [List.length_set]; exact a4, fun e he => ?_⟩
  rw [List.length_set] at he
  by_cases q : j = e
  · rw [← q, nmO_set _ _ hj, Nat.zero_add, Nat.zero_add]
    exact ⟨h1, h4, h2, h3⟩
  · rw [nmO_setn _ _ q]
    obtain ⟨b1, b2, b3⟩ := a5 e he
    rw [Nat.zero_add] at b1 b3 ⊢
    refine ⟨by rw [hF _ (by omega) (by omega)]; exact b1, b2, ⟨fun k hk => ?_, b3.2⟩⟩
    rw [Nat.zero_add, hF _ (by omega) (by omega)]
    exact b3.1 k hk
/-- only the camp of now changes -/
def FrN (I I' : Nat → Nat → Int32) : Prop := ∀ a, a ≠ 249 → I' a = I a
theorem FrN_R {I I' : Nat → Nat → Int32} (h : FrN I I') : FrR 248 262 I I' := fun a p => h a (by omega)
theorem Cd_N {I' : Nat → Nat → Int32} {l : List Nat} (h : Cd I l) (F : FrN I I') : Cd I' l := ⟨by rw [F 248 (by omega)]; exact h.1, fun k hk => by rw [F 254 (by omega)]; exact h.2.1 k hk, h.2.2⟩
theorem MdR_cur {I' : Nat → Nat → Int32} {ns' : List (List Nat)} {ct' : List Nat} (h : MdR I J ns ct ps im tx tr) (F : FrN I I') (hl : ns'.length = ns.length) (hm : Ml I' 249 0 ns' ct') : MdR I' J ns' ct' ps im tx tr := by
  obtain ⟨a1, a2, a3, a4, a5, a6⟩ := h
  have e := F 248 (by omega)
  exact ⟨by rw [e, hl]; exact a1, hm, PmR_fr (by rw [e]) (F 250 (by omega)) a3, ImM_fr (F 252 (by omega)) (F 251 (by omega)) a4, TxM_fr (by rw [e]) (F 253 (by omega)) a5, a6⟩
def nmN (I : Nat → Nat → Int32) (l : List Nat) (j n : Nat) : Nat → Nat → Int32 := fun x k => if x = 249 ∧ 19 + 12 * j ≤ k ∧ k < 19 + 12 * j + n then (if k - (19 + 12 * j) < l.length then I 254 (k - (19 + 12 * j)) else 0) else I x k
theorem nmN_ne {l : List Nat} {j n x : Nat} (h : x ≠ 249) : nmN I l j n x = I x := by
  funext k
  unfold nmN
  rw [if_neg (fun q => h q.1)]
theorem nmN_s {l : List Nat} {j n : Nat} {v : Int32} (hv : v = if n < l.length then I 254 n else 0) : up2 (nmN I l j n) 249 (19 + 12 * j + n) v = nmN I l j (n + 1) := by
  funext x k
  unfold up2 nmN
  by_cases c : x = 249 ∧ k = 19 + 12 * j + n
  · rw [if_pos c, if_pos ⟨c.1, by omega, by omega⟩, c.2, Nat.add_sub_cancel_left, hv]
  · rw [if_neg c]
    by_cases c2 : x = 249 ∧ 19 + 12 * j ≤ k ∧ k < 19 + 12 * j + n
    · rw [if_pos c2, if_pos (show x = 249 ∧ 19 + 12 * j ≤ k ∧ k < 19 + 12 * j + (n + 1) from ⟨c2.1, c2.2.1, by omega⟩)]
    · rw [if_neg c2, if_neg (fun q => c2 ⟨q.1, q.2.1, by
        have : ¬ k = 19 + 12 * j + n := fun r => c ⟨q.1, r⟩
        omega⟩)]
theorem m_lay_loop {l : List Nat} (hl : Cd I l) (h12 : l.length ≤ 12) {j : Nat} (hj : j < 6) (Q : Option Value → Mem → Prop) : ∀ n k, k + n = 12 → (Wn d i_MD_names 15 [(0, .ref 248), (1, .int (nI j)), (2, .int (nI k))] [] (mm L (nmN I l j k) J) Q ↔ Q none (mm L (nmN I l j 12) J)) := by
  intro n
  induction n with
  | zero =>
    intro k hk
    rw [show k = 12 by omega, H_MD_names_15, if_neg (by decide)]
  | succ n ih =>
    intro k hk
    have e : nI k < nI 12 := nI_lt (by omega) (by omega)
    have e : nI k < 12 := e
    have t10 : nmN I l j k 248 10 = nI l.length := by rw [nmN_ne (by omega)]; exact hl.1
    have t254 : nmN I l j k 254 = I 254 := nmN_ne (by omega)
    rw [H_MD_names_15, if_pos e, e19, nI_add, nI_1]
    simp only [mm_C, mm_R, mm_L, mm_I, mm_sI, CL248, CL249, CL250, CL251, CL252, CL253, CL254, CL255, CL256, CL257, CL258, CL259, CL260, CL261, RR248_1, RR248_2, RR248_4, RR248_5, RR248_6, RR248_9, RR248_11, RR248_13, RR248_14, RR248_15, RR248_16, RR248_17, RR248_19, n249, n250, n251, n252, n253, n254, n255, n256, n257, n258, n259, n260, n261, LN249, LN250, LN251, LN252, LN253, LN254, LN255, LN256, LN257, LN258, LN259, LN260, LN261, ↓reduceIte, t10, t254]
    by_cases c : k < l.length
    · rw [if_pos (nI_lt c (by omega)), if_pos ⟨by decide, inb_nI (by omega) (by omega)⟩, if_pos ⟨trivial, inb_nI (by omega) (by omega)⟩, ix_nI (by omega), ix_nI (by omega), nmN_s (by rw [if_pos c]), ih (k + 1) (by omega)]
    · rw [if_neg (nI_nlt (by omega) (by omega)), if_pos ⟨trivial, inb_nI (by omega) (by omega)⟩, ix_nI (by omega), nmN_s (by rw [if_neg c]), ih (k + 1) (by omega)]
theorem m_lay {l : List Nat} (hl : Cd I l) (h12 : l.length ≤ 12) (hm : Ml I 249 0 ns ct) {j : Nat} (hj : j < ns.length) (Q : Mem → Prop) (hQ : ∀ I', Ml I' 249 0 (ns.set j l) ct → FrN I I' → Q (mm L I' J)) : WV d i_MD_names [.ref 248, .int (nI j)] (mm L I J) Q := by
  have h6 := hm.2.2.2.1
  rw [E_MD_names, e13]
  simp only [mm_C, mm_R, mm_L, mm_I, mm_sI, CL248, CL249, CL250, CL251, CL252, CL253, CL254, CL255, CL256, CL257, CL258, CL259, CL260, CL261, RR248_1, RR248_2, RR248_4, RR248_5, RR248_6, RR248_9, RR248_11, RR248_13, RR248_14, RR248_15, RR248_16, RR248_17, RR248_19, n249, n250, n251, n252, n253, n254, n255, n256, n257, n258, n259, n260, n261, LN249, LN250, LN251, LN252, LN253, LN254, LN255, LN256, LN257, LN258, LN259, LN260, LN261, ↓reduceIte, hl.1]
  rw [if_pos ⟨trivial, inb_nI (by omega) (by omega)⟩, ix_nI (by omega)]
  have F1 : FrN I (up2 I 249 (13 + j) (nI l.length)) := fun a ha => up2_ne _ _ _ ha
  have := m_lay_loop (d := d) (L := L) (J := J) (Cd_N hl F1) h12 (show j < 6 by omega) (QV Q) 12 0 (by omega)
  have z : nmN (up2 I 249 (13 + j) (nI l.length)) l j 0 = up2 I 249 (13 + j) (nI l.length) := by funext x k; unfold nmN; rw [if_neg (fun q => by omega)]
  rw [nI_0, z] at this
  rw [this]
  have F2 : FrN I (nmN (up2 I 249 (13 + j) (nI l.length)) l j 12) := fun a ha => by rw [nmN_ne ha]; exact F1 a ha
  refine hQ _ (Ml_set hm hj ?_ (fun k hk => ?_) hl.2.2 h12 (fun t t1 t2 => ?_)) F2
  · unfold nmN
    rw [if_neg (fun q => by omega), up2_same]
  · unfold nmN
    rw [if_pos ⟨rfl, by omega, by omega⟩, Nat.add_sub_cancel_left, if_pos hk, up2_ne _ _ _ (by omega)]
    exact hl.2.1 k hk
  · unfold nmN
    rw [if_neg (fun q => by omega), up2_other _ _ _ t1]
theorem q5 : (5 : Int64) = Int32.toInt64 5 := by decide
theorem q3 : (3 : Int64) = Int32.toInt64 3 := by decide
theorem q4 : (4 : Int64) = Int32.toInt64 4 := by decide
theorem q6 : (6 : Int64) = Int32.toInt64 6 := by decide
theorem m_isTurnY {t : Nat} (ht : t < 6) (M : Mem) (Q : Int32 → Mem → Prop) : WI (d + 1) i_MD_isTurn [.int (nI t)] M Q ↔ Q 1 M := by
  have h1 : nI t ≤ nI 5 := nI_le (by omega) (by omega)
  have h1 : nI t ≤ 5 := h1
  rw [E_MD_isTurn, q0, q5, m_in, within_Y (nI_pos' (by omega)) h1, if_pos (bI_01 _)]
  exact Iff.rfl
theorem m_isTurnN {x : Int32} (hx : x < 0 ∨ 6 ≤ x) (M : Mem) (Q : Int32 → Mem → Prop) : WI (d + 1) i_MD_isTurn [.int x] M Q ↔ Q 0 M := by
  have hn : ¬ (0 ≤ x ∧ x ≤ 5) := fun q => hx.elim (fun h => absurd h (Int32.not_lt.mpr q.1)) (fun h => absurd (Int32.le_trans h q.2) (by decide))
  rw [E_MD_isTurn, q0, q5, m_in, decide_eq_false hn, if_pos (bI_01 _)]
  exact Iff.rfl
theorem fit_13 {l : List Nat} {t : Nat} (hl : l.length ≤ 12) : (¬ fitB l t → (tie l t).length = 13) ∧ (fitB l t → (tie l t).length ≤ 12) := by
  refine ⟨fun h => ?_, fun h => fit_len h hl⟩
  have h1 : ¬ l.length < 12 := fun q => h (Or.inl q)
  have h2 : ¬ l.getLast? = some (t ^^^ 1) := fun q => h (Or.inr q)
  unfold tie
  rw [if_neg h2, List.length_append, List.length_singleton]
  omega
theorem m_tiesN (h : MdR I J ns ct ps im tx tr) {x y : Int32} (hx : x < 0 ∨ nI ns.length ≤ x) (Q : Int32 → Mem → Prop) : WI (d + 2) i_MD_ties [.ref 248, .int x, .int y] (mm L I J) Q ↔ Q (-1) (mm L I J) := by
  rw [E_MD_ties, mm_C, if_pos CL248, m_herdN h hx, if_pos rfl]
theorem m_tiesN2 (h : MdR I J ns ct ps im tx tr) {j : Nat} (hj : j < ns.length) {y : Int32} (hy : y < 0 ∨ 6 ≤ y) (Q : Int32 → Mem → Prop) : WI (d + 2) i_MD_ties [.ref 248, .int (nI j), .int y] (mm L I J) Q ↔ Q (-1) (mm L I J) := by
  rw [E_MD_ties, mm_C, if_pos CL248, m_herdY h hj, if_neg i10, m_isTurnN hy, if_pos rfl]
theorem m_ties (h : MdR I J ns ct ps im tx tr) {j : Nat} (hj : j < ns.length) (hT : Tg (nmO ns j)) {t : Nat} (ht : t < 6) (Q : Int32 → Mem → Prop)
    (hF : ¬ fitB (nmO ns j) t → ∀ I', MdR I' J ns ct ps im tx tr → FrR 248 262 I I' → Q (-3) (mm L I' J))
    (hY : fitB (nmO ns j) t → ∀ I', MdR I' J (ns.set j (tie (nmO ns j) t)) ct (((ns, ct) :: ps).take 10) im tx tr → FrR 248 262 I I' → Q (nI (tie (nmO ns j) t).length) (mm L I' J)) : WI (d + 3) i_MD_ties [.ref 248, .int (nI j), .int (nI t)] (mm L I J) Q := by
  have lj := mle h.2.1 hj
  have f13 := fit_13 (t := t) lj
  have tl := tie_len (nmO ns j) t
  rw [E_MD_ties, mm_C, if_pos CL248, m_herdY h hj, if_neg i10, m_isTurnY ht, if_neg i10]
  simp only [mm_C, mm_R, mm_L, mm_I, mm_sI, CL248, CL249, CL250, CL251, CL252, CL253, CL254, CL255, CL256, CL257, CL258, CL259, CL260, CL261, RR248_1, RR248_2, RR248_4, RR248_5, RR248_6, RR248_9, RR248_11, RR248_13, RR248_14, RR248_15, RR248_16, RR248_17, RR248_19, n249, n250, n251, n252, n253, n254, n255, n256, n257, n258, n259, n260, n261, LN249, LN250, LN251, LN252, LN253, LN254, LN255, LN256, LN257, LN258, LN259, LN260, LN261, ↓reduceIte]
  have h0 := MdR_sc h (FrM_K (FrK_0 (I := I) (v := 0)))
  refine m_tieName h0.2.1 hj Cd_0 (by rw [List.length_nil]; omega) _ (fun I1 g1 g2 => ?_)
  rw [tieAll_self hT] at g1
  simp only [mm_C, mm_R, mm_L, mm_I, mm_sI, CL248, CL249, CL250, CL251, CL252, CL253, CL254, CL255, CL256, CL257, CL258, CL259, CL260, CL261, RR248_1, RR248_2, RR248_4, RR248_5, RR248_6, RR248_9, RR248_11, RR248_13, RR248_14, RR248_15, RR248_16, RR248_17, RR248_19, n249, n250, n251, n252, n253, n254, n255, n256, n257, n258, n259, n260, n261, LN249, LN250, LN251, LN252, LN253, LN254, LN255, LN256, LN257, LN258, LN259, LN260, LN261, ↓reduceIte]
  refine m_tie g1 (by omega) ht _ (fun I2 f1 f2 => ?_)
  have F2 : FrM I I2 := FrM_tr (FrM_K FrK_0) (FrM_tr (FrM_K g2) (FrM_K f2))
  have h2 := MdR_sc h F2
  simp only [mm_C, mm_R, mm_L, mm_I, mm_sI, CL248, CL249, CL250, CL251, CL252, CL253, CL254, CL255, CL256, CL257, CL258, CL259, CL260, CL261, RR248_1, RR248_2, RR248_4, RR248_5, RR248_6, RR248_9, RR248_11, RR248_13, RR248_14, RR248_15, RR248_16, RR248_17, RR248_19, n249, n250, n251, n252, n253, n254, n255, n256, n257, n258, n259, n260, n261, LN249, LN250, LN251, LN252, LN253, LN254, LN255, LN256, LN257, LN258, LN259, LN260, LN261, ↓reduceIte, f1.1]
  by_cases c : fitB (nmO ns j) t
  · have e : ¬ nI (tie (nmO ns j) t).length = nI 13 := fun q => by have := (nI_eq (by omega) (by omega)).mp q; have := f13.2 c; omega
    have e : ¬ nI (tie (nmO ns j) t).length = 13 := e
    rw [if_neg e]
    refine m_rem h2 _ (fun I3 p1 p2 => ?_)
    have c3 := Cd_P f1 p2
    simp only [mm_C, mm_R, mm_L, mm_I, mm_sI, CL248, CL249, CL250, CL251, CL252, CL253, CL254, CL255, CL256, CL257, CL258, CL259, CL260, CL261, RR248_1, RR248_2, RR248_4, RR248_5, RR248_6, RR248_9, RR248_11, RR248_13, RR248_14, RR248_15, RR248_16, RR248_17, RR248_19, n249, n250, n251, n252, n253, n254, n255, n256, n257, n258, n259, n260, n261, LN249, LN250, LN251, LN252, LN253, LN254, LN255, LN256, LN257, LN258, LN259, LN260, LN261, ↓reduceIte]
    refine m_lay c3 (f13.2 c) p1.2.1 hj _ (fun I4 r1 r2 => ?_)
    simp only [mm_C, mm_R, mm_L, mm_I, mm_sI, CL248, CL249, CL250, CL251, CL252, CL253, CL254, CL255, CL256, CL257, CL258, CL259, CL260, CL261, RR248_1, RR248_2, RR248_4, RR248_5, RR248_6, RR248_9, RR248_11, RR248_13, RR248_14, RR248_15, RR248_16, RR248_17, RR248_19, n249, n250, n251, n252, n253, n254, n255, n256, n257, n258, n259, n260, n261, LN249, LN250, LN251, LN252, LN253, LN254, LN255, LN256, LN257, LN258, LN259, LN260, LN261, ↓reduceIte, (Cd_N c3 r2).1]
    exact hY c I4 (MdR_cur p1 r2 (List.length_set ..) r1) (FrR_tr (FrM_R F2) (FrR_tr (FrP_R p2) (FrN_R r2)))
  · rw [if_pos (by rw [f13.1 c]; rfl)]
    exact hF c I2 h2 (FrM_R F2)
theorem m_looN (h : MdR I J ns ct ps im tx tr) {x : Int32} (hx : x < 0 ∨ nI ns.length ≤ x) (Q : Int32 → Mem → Prop) : WI (d + 2) i_MD_loosens [.ref 248, .int x] (mm L I J) Q ↔ Q (-1) (mm L I J) := by
  rw [E_MD_loosens, mm_C, if_pos CL248, m_herdN h hx, if_pos rfl]
theorem m_looE (h : MdR I J ns ct ps im tx tr) {j : Nat} (hj : j < ns.length) (h0 : (nmO ns j).length = 0) (Q : Int32 → Mem → Prop) : WI (d + 2) i_MD_loosens [.ref 248, .int (nI j)] (mm L I J) Q ↔ Q (-2) (mm L I J) := by
  have h6 := h.2.1.2.2.2.1
  rw [E_MD_loosens, mm_C, if_pos CL248, m_herdY h hj, if_neg i10, e13]
  simp only [mm_C, mm_R, mm_L, mm_I, mm_sI, CL248, CL249, CL250, CL251, CL252, CL253, CL254, CL255, CL256, CL257, CL258, CL259, CL260, CL261, RR248_1, RR248_2, RR248_4, RR248_5, RR248_6, RR248_9, RR248_11, RR248_13, RR248_14, RR248_15, RR248_16, RR248_17, RR248_19, n249, n250, n251, n252, n253, n254, n255, n256, n257, n258, n259, n260, n261, LN249, LN250, LN251, LN252, LN253, LN254, LN255, LN256, LN257, LN258, LN259, LN260, LN261, ↓reduceIte]
  rw [if_pos (ok13 (by omega)), if_pos (by rw [mlen h.2.1 hj, h0]; rfl)]
theorem m_looY (h : MdR I J ns ct ps im tx tr) {j : Nat} (hj : j < ns.length) (h0 : 0 < (nmO ns j).length) (Q : Int32 → Mem → Prop) (hQ : ∀ I', MdR I' J (ns.set j (nmO ns j).dropLast) ct (((ns, ct) :: ps).take 10) im tx tr → FrR 248 262 I I' → Q (nI ((nmO ns j).getD ((nmO ns j).length - 1) 0)) (mm L I' J)) : WI (d + 2) i_MD_loosens [.ref 248, .int (nI j)] (mm L I J) Q := by
  have h6 := h.2.1.2.2.2.1
  have lj := mle h.2.1 hj
  have ea : nI (19 + 12 * j) + nI (nmO ns j).length - 1 = nI (19 + 12 * j + ((nmO ns j).length - 1)) := by
    rw [nI_add, nI_m1 (by omega), show 19 + 12 * j + (nmO ns j).length - 1 = 19 + 12 * j + ((nmO ns j).length - 1) by omega]
  have ez : ¬ I 249 (nI (13 + j)).toNatClampNeg = 0 := by rw [mlen h.2.1 hj]; exact nI_ne0 h0 (by omega)
  rw [E_MD_loosens, mm_C, if_pos CL248, m_herdY h hj, if_neg i10, e13, e19]
  simp only [mm_C, mm_R, mm_L, mm_I, mm_sI, CL248, CL249, CL250, CL251, CL252, CL253, CL254, CL255, CL256, CL257, CL258, CL259, CL260, CL261, RR248_1, RR248_2, RR248_4, RR248_5, RR248_6, RR248_9, RR248_11, RR248_13, RR248_14, RR248_15, RR248_16, RR248_17, RR248_19, n249, n250, n251, n252, n253, n254, n255, n256, n257, n258, n259, n260, n261, LN249, LN250, LN251, LN252, LN253, LN254, LN255, LN256, LN257, LN258, LN259, LN260, LN261, ↓reduceIte]
  rw [if_pos (ok13 (by omega)), if_neg ez, mlen h.2.1 hj, ea]
  refine m_rem h _ (fun I1 g1 g2 => ?_)
  have b := (g1.2.1.2.2.2.2 j hj).2.2.1 ((nmO ns j).length - 1) (by omega)
  rw [Nat.zero_add] at b
  have l1 := (g1.2.1.2.2.2.2 j hj).1
  rw [Nat.zero_add] at l1
  have x1 : Int32.toNatClampNeg (nI (19 + 12 * j + ((nmO ns j).length - 1))) = 19 + 12 * j + ((nmO ns j).length - 1) := ix_nI (by omega)
  have x2 : Int32.toNatClampNeg (nI (13 + j)) = 13 + j := ix_nI (by omega)
  have k1 : inb (nI (19 + 12 * j + ((nmO ns j).length - 1))) 91 := inb_nI (by omega) (by omega)
  have k2 : inb (nI (13 + j)) 91 := inb_nI (by omega) (by omega)
  have u : up2 I1 249 (19 + 12 * j + ((nmO ns j).length - 1)) 0 249 (13 + j) = nI (nmO ns j).length := by rw [up2_other _ _ _ (by omega)]; exact l1
  simp only [mm_C, mm_R, mm_L, mm_I, mm_sI, CL248, CL249, CL250, CL251, CL252, CL253, CL254, CL255, CL256, CL257, CL258, CL259, CL260, CL261, RR248_1, RR248_2, RR248_4, RR248_5, RR248_6, RR248_9, RR248_11, RR248_13, RR248_14, RR248_15, RR248_16, RR248_17, RR248_19, n249, n250, n251, n252, n253, n254, n255, n256, n257, n258, n259, n260, n261, LN249, LN250, LN251, LN252, LN253, LN254, LN255, LN256, LN257, LN258, LN259, LN260, LN261, ↓reduceIte, x1, x2, b, u, nI_m1 h0, true_and]
  rw [if_pos ⟨by decide, k1⟩, if_pos k1, if_pos ⟨by decide, k2⟩, if_pos k2]
  have F : FrN I1 (up2 (up2 I1 249 (19 + 12 * j + ((nmO ns j).length - 1)) 0) 249 (13 + j) (nI ((nmO ns j).length - 1))) := fun a ha => by rw [up2_ne _ _ _ ha, up2_ne _ _ _ ha]
  refine hQ _ (MdR_cur g1 F (List.length_set ..) (Ml_set g1.2.1 hj ?_ (fun k hk => ?_) ?_ ?_ (fun t t1 t2 => ?_))) (FrR_tr (FrP_R g2) (FrN_R F))
  · rw [up2_same, List.length_dropLast]
  · rw [List.length_dropLast] at hk
    rw [up2_other _ _ _ (by omega), up2_other _ _ _ (by omega), getD_drop hk]
    have := (g1.2.1.2.2.2.2 j hj).2.2.1 k (by omega)
    rw [Nat.zero_add] at this
    exact this
  · exact fun x hx => (g1.2.1.2.2.2.2 j hj).2.2.2 x ((List.dropLast_sublist _).subset hx)
  · rw [List.length_dropLast]
    omega
  · rw [up2_other _ _ _ t1, up2_other _ _ _ (by omega)]
theorem m_untN (h : MdR I J ns ct ps im tx tr) {x : Int32} (hx : x < 0 ∨ nI ns.length ≤ x) (Q : Int32 → Mem → Prop) : WI (d + 2) i_MD_unties [.ref 248, .int x] (mm L I J) Q ↔ Q (-1) (mm L I J) := by
  rw [E_MD_unties, mm_C, if_pos CL248, m_herdN h hx, if_pos rfl]
theorem m_untY (h : MdR I J ns ct ps im tx tr) {j : Nat} (hj : j < ns.length) (Q : Int32 → Mem → Prop) (hQ : ∀ I', MdR I' J (ns.set j []) ct (((ns, ct) :: ps).take 10) im tx tr → FrR 248 262 I I' → Q (nI (nmO ns j).length) (mm L I' J)) : WI (d + 2) i_MD_unties [.ref 248, .int (nI j)] (mm L I J) Q := by
  have h6 := h.2.1.2.2.2.1
  rw [E_MD_unties, mm_C, if_pos CL248, m_herdY h hj, if_neg i10, e13]
  simp only [mm_C, mm_R, mm_L, mm_I, mm_sI, CL248, CL249, CL250, CL251, CL252, CL253, CL254, CL255, CL256, CL257, CL258, CL259, CL260, CL261, RR248_1, RR248_2, RR248_4, RR248_5, RR248_6, RR248_9, RR248_11, RR248_13, RR248_14, RR248_15, RR248_16, RR248_17, RR248_19, n249, n250, n251, n252, n253, n254, n255, n256, n257, n258, n259, n260, n261, LN249, LN250, LN251, LN252, LN253, LN254, LN255, LN256, LN257, LN258, LN259, LN260, LN261, ↓reduceIte]
  refine m_rem h _ (fun I1 g1 g2 => ?_)
  simp only [mm_C, mm_R, mm_L, mm_I, mm_sI, CL248, CL249, CL250, CL251, CL252, CL253, CL254, CL255, CL256, CL257, CL258, CL259, CL260, CL261, RR248_1, RR248_2, RR248_4, RR248_5, RR248_6, RR248_9, RR248_11, RR248_13, RR248_14, RR248_15, RR248_16, RR248_17, RR248_19, n249, n250, n251, n252, n253, n254, n255, n256, n257, n258, n259, n260, n261, LN249, LN250, LN251, LN252, LN253, LN254, LN255, LN256, LN257, LN258, LN259, LN260, LN261, ↓reduceIte]
  rw [if_pos (ok13 (by omega)), mlen g1.2.1 hj]
  have h1 := MdR_sc g1 (FrM_K (FrK_0 (I := I1) (v := 0)))
  refine m_lay Cd_0 (Nat.zero_le _) h1.2.1 hj _ (fun I2 f1 f2 => ?_)
  exact hQ I2 (MdR_cur h1 f2 (List.length_set ..) f1) (FrR_tr (FrP_R g2) (FrR_tr (FrM_R (FrM_K FrK_0)) (FrN_R f2)))
theorem m_addN {x : Int32} (hx : x < 0 ∨ 6 ≤ x) (M : Mem) (Q : Int32 → Mem → Prop) : WI (d + 2) i_MD_adds [.ref 248, .int x] M Q ↔ Q (-1) M := by
  rw [E_MD_adds, m_isTurnN hx, if_pos rfl]
theorem ok0 : rdI 10 ∧ inb 0 91 := by decide
theorem m_addF (h : MdR I J ns ct ps im tx tr) {t : Nat} (ht : t < 6) (hf : ct.length = 12) (Q : Int32 → Mem → Prop) : WI (d + 2) i_MD_adds [.ref 248, .int (nI t)] (mm L I J) Q ↔ Q (-3) (mm L I J) := by
  have z : I 249 (Int32.toNatClampNeg 0) = 12 := by
    have := h.2.1.1
    rw [hf] at this
    exact this
  rw [E_MD_adds, m_isTurnY ht, if_neg i10]
  simp only [mm_C, mm_R, mm_L, mm_I, mm_sI, CL248, CL249, CL250, CL251, CL252, CL253, CL254, CL255, CL256, CL257, CL258, CL259, CL260, CL261, RR248_1, RR248_2, RR248_4, RR248_5, RR248_6, RR248_9, RR248_11, RR248_13, RR248_14, RR248_15, RR248_16, RR248_17, RR248_19, n249, n250, n251, n252, n253, n254, n255, n256, n257, n258, n259, n260, n261, LN249, LN250, LN251, LN252, LN253, LN254, LN255, LN256, LN257, LN258, LN259, LN260, LN261, ↓reduceIte]
  rw [if_pos ok0, if_pos z]
theorem z0 : Int32.toNatClampNeg 0 = 0 := by decide
theorem inb0 : inb 0 91 := by decide
theorem m_addY (h : MdR I J ns ct ps im tx tr) {t : Nat} (ht : t < 6) (hf : ct.length < 12) (Q : Int32 → Mem → Prop) (hQ : ∀ I', MdR I' J ns (ct ++ [t]) (((ns, ct) :: ps).take 10) im tx tr → FrR 248 262 I I' → Q (nI (ct.length + 1)) (mm L I' J)) : WI (d + 2) i_MD_adds [.ref 248, .int (nI t)] (mm L I J) Q := by
  have z : I 249 0 = nI ct.length := h.2.1.1
  have nz : ¬ nI ct.length = nI 12 := fun q => by have := (nI_eq (by omega) (by omega)).mp q; omega
  have nz : ¬ nI ct.length = 12 := nz
  rw [E_MD_adds, m_isTurnY ht, if_neg i10]
  simp only [mm_C, mm_R, mm_L, mm_I, mm_sI, CL248, CL249, CL250, CL251, CL252, CL253, CL254, CL255, CL256, CL257, CL258, CL259, CL260, CL261, RR248_1, RR248_2, RR248_4, RR248_5, RR248_6, RR248_9, RR248_11, RR248_13, RR248_14, RR248_15, RR248_16, RR248_17, RR248_19, n249, n250, n251, n252, n253, n254, n255, n256, n257, n258, n259, n260, n261, LN249, LN250, LN251, LN252, LN253, LN254, LN255, LN256, LN257, LN258, LN259, LN260, LN261, ↓reduceIte, z0, z, nz]
  rw [if_pos ok0]
  refine m_rem h _ (fun I1 g1 g2 => ?_)
  have z1 : I1 249 0 = nI ct.length := g1.2.1.1
  have ec : (1 : Int32) + nI ct.length = nI (1 + ct.length) := nI_add 1 _
  have x1 : Int32.toNatClampNeg (nI (1 + ct.length)) = 1 + ct.length := ix_nI (by omega)
  have k1 : inb (nI (1 + ct.length)) 91 := inb_nI (by omega) (by omega)
  have u : up2 I1 249 (1 + ct.length) (nI t) 249 0 = nI ct.length := by rw [up2_other _ _ _ (by omega)]; exact z1
  simp only [mm_C, mm_R, mm_L, mm_I, mm_sI, CL248, CL249, CL250, CL251, CL252, CL253, CL254, CL255, CL256, CL257, CL258, CL259, CL260, CL261, RR248_1, RR248_2, RR248_4, RR248_5, RR248_6, RR248_9, RR248_11, RR248_13, RR248_14, RR248_15, RR248_16, RR248_17, RR248_19, n249, n250, n251, n252, n253, n254, n255, n256, n257, n258, n259, n260, n261, LN249, LN250, LN251, LN252, LN253, LN254, LN255, LN256, LN257, LN258, LN259, LN260, LN261, ↓reduceIte, z0, z1, ec, x1, u, true_and, nI_1, up2_same]
  rw [if_pos ok0, if_pos k1, if_pos ok0, if_pos inb0, if_pos ok0]
  have F : FrN I1 (up2 (up2 I1 249 (1 + ct.length) (nI t)) 249 0 (nI (ct.length + 1))) := fun a ha => by rw [up2_ne _ _ _ ha, up2_ne _ _ _ ha]
  obtain ⟨b1, b2, b3, b4, b5⟩ := g1.2.1
  have kk : ∀ s, 13 ≤ s → up2 (up2 I1 249 (1 + ct.length) (nI t)) 249 0 (nI (ct.length + 1)) 249 s = I1 249 s := fun s hs => by rw [up2_other _ _ _ (by omega), up2_other _ _ _ (by omega)]
  refine hQ _ (MdR_cur g1 F rfl ⟨?_, ?_, ⟨fun k hk => ?_, ?_⟩, b4, fun e he => ?_⟩) (FrR_tr (FrP_R g2) (FrN_R F))
  · rw [up2_same, List.length_append]
    rfl
  · rw [List.length_append, List.length_singleton]
    omega
  · rw [List.length_append, List.length_singleton] at hk
    rw [Nat.zero_add, up2_other _ _ _ (by omega)]
    by_cases e2 : k = ct.length
    · rw [e2, up2_same, getD_end]
    · rw [up2_other _ _ _ (by omega), getD_app (by omega)]
      have := b3.1 k (by omega)
      rw [Nat.zero_add] at this
      exact this
  · intro x hx
    rcases List.mem_append.mp hx with q | q
    · exact b3.2 x q
    · rw [List.mem_singleton.mp q]; exact ht
  · obtain ⟨c1, c2, c3⟩ := b5 e he
    rw [Nat.zero_add] at c1 c3 ⊢
    exact ⟨by rw [kk _ (by omega)]; exact c1, c2, ⟨fun k hk => by rw [Nat.zero_add, kk _ (by omega)]; exact c3.1 k hk, c3.2⟩⟩
end MD16
