/-! ===== lives and next: the class' answers ===== -/
theorem RR0_5 : RR 0 5 = 183 := by decide
theorem n183 : ¬ (183 : Nat) = 999999 := by decide
def bst (v : Nat → Int32) : Nat → Nat → Nat → Nat
  | 0, b, _ => b
  | m + 1, b, h => bst v m (if v b < v h then h else b) (h + 1)
theorem bst_cg {v u : Nat → Int32} : ∀ m b h, b < 6 → h + m ≤ 6 → (∀ j, j < 6 → v j = u j) → bst v m b h = bst u m b h := by
  intro m
  induction m with
  | zero => intro b h _ _ _; rfl
  | succ m ih =>
    intro b h hb hh e
    show bst v m (if v b < v h then h else b) (h + 1) = bst u m (if u b < u h then h else b) (h + 1)
    rw [e b hb, e h (by omega)]
    exact ih _ _ (by split <;> omega) (by omega) e
theorem bst_lt (v : Nat → Int32) : ∀ m b h, b < 6 → h + m ≤ 6 → bst v m b h < 6 := by
  intro m
  induction m with
  | zero => intro b h hb _; exact hb
  | succ m ih =>
    intro b h hb hh
    exact ih _ _ (by split <;> omega) (by omega)
theorem bst_ge {u : Nat → Nat} (hu : ∀ j, u j < 2 ^ 31) : ∀ m b h, u b ≤ u (bst (fun j => nI (u j)) m b h) ∧ ∀ j, h ≤ j → j < h + m → u j ≤ u (bst (fun j => nI (u j)) m b h) := by
  intro m
  induction m with
  | zero => intro b h; exact ⟨Nat.le_refl _, fun j h1 h2 => by omega⟩
  | succ m ih =>
    intro b h
    obtain ⟨i1, i2⟩ := ih (if nI (u b) < nI (u h) then h else b) (h + 1)
    have e : bst (fun j => nI (u j)) (m + 1) b h = bst (fun j => nI (u j)) m (if nI (u b) < nI (u h) then h else b) (h + 1) := rfl
    rw [e]
    by_cases c : u b < u h
    · rw [if_pos (nI_lt c (hu h))] at i1 i2 ⊢
      refine ⟨by omega, fun j h1 h2 => ?_⟩
      by_cases q : j = h
      · rw [q]; exact i1
      · exact i2 j (by omega) (by omega)
    · rw [if_neg (nI_nlt (by omega) (hu b))] at i1 i2 ⊢
      refine ⟨i1, fun j h1 h2 => ?_⟩
      by_cases q : j = h
      · rw [q]; omega
      · exact i2 j (by omega) (by omega)
def cv (W : List (List Nat)) (h : Nat) : Nat := sm (fun s => s.count h) W
theorem cv_le {W : List (List Nat)} (h6 : ∀ s ∈ W, s.length ≤ 6) (h : Nat) : cv W h ≤ 6 * W.length := by
  unfold cv
  induction W with
  | nil => exact Nat.le_refl _
  | cons s W ih =>
    rw [sm_cons, List.length_cons]
    have h1 := ih (fun t ht => h6 t (List.mem_cons_of_mem _ ht))
    have h2 := h6 s List.mem_cons_self
    have h3 : s.count h ≤ s.length := List.count_le_length
    omega
theorem cv_pos {W : List (List Nat)} {s : List Nat} {h : Nat} (hs : s ∈ W) (hh : h ∈ s) : 0 < cv W h := by
  unfold cv
  induction W with
  | nil => cases hs
  | cons t W ih =>
    rw [sm_cons]
    rcases List.mem_cons.mp hs with q | q
    · have : 0 < t.count h := List.count_pos_iff.mpr (by rw [← q]; exact hh)
      omega
    · have := ih q
      omega
def livA (W : List (List Nat)) (z : Int32) : Int32 := if z = -1 then nI W.length else match fmo W with
  | none => -9
  | some x => if z < nI x.length then nI (x.getD z.toNatClampNeg 0) else -5
def nexA (W : List (List Nat)) : Int32 := match fmo W with
  | none => -9
  | some _ => nI (bst (fun j => nI (cv W j)) 5 0 1)
section LvK
variable {d L : Nat} {I : Nat → Nat → Int32} {J : Nat → Nat → Int64} {ns : List (List Nat)} {ct : List Nat} {ps : List Cp} {im : Nat → Option Cp} {tx : List Nat} {tr : Int64}
theorem c_inMost_loop (Q : Option Value → Mem → Prop) : ∀ m b h, b < 6 → h + m = 6 →
    (Wn d i_Lives_inMost 4 [(0, .ref 183), (1, .int (nI b)), (2, .int (nI h))] [] (mm L I J) Q ↔ Q (some (.int (nI (bst (I 190) m b h)))) (mm L I J)) := by
  intro m
  induction m with
  | zero =>
    intro b h hb hh
    rw [H_Lives_inMost_4, show h = 6 by omega, if_neg (by decide)]
    rfl
  | succ m ih =>
    intro b h hb hh
    have e : nI h < nI 6 := nI_lt (by omega) (by omega)
    have e : nI h < 6 := e
    have eb : bst (I 190) (m + 1) b h = bst (I 190) m (if I 190 b < I 190 h then h else b) (h + 1) := rfl
    rw [H_Lives_inMost_4, if_pos e, nI_1, eb]
    simp only [mm_C, mm_R, mm_L, mm_I, mm_sI, CL183, CL184, CL186, CL188, CL189, CL190, CL3, RR183_0, RR183_1, RR183_2, RR183_3, RR183_4, n184, n186, n188, n189, n190, LN188, LN189, LN190, ↓reduceIte]
    rw [if_pos (show rdI 10 ∧ inb (nI h) 6 from ⟨by decide, inb_nI (by omega) (by omega)⟩), if_pos (show rdI 10 ∧ inb (nI b) 6 from ⟨by decide, inb_nI (by omega) (by omega)⟩), ix_nI (by omega), ix_nI (by omega), ih h (h + 1) (by omega) (by omega), ih b (h + 1) hb (by omega)]
    by_cases c : I 190 b < I 190 h
    · rw [if_pos c, if_pos c]
    · rw [if_neg c, if_neg c]
theorem lt_m1 {z : Int32} (h : ¬ z < -1) (h1 : ¬ z = -1) : ∃ k : Nat, k < 2 ^ 31 ∧ z = nI k := by
  apply nI_of
  intro q
  rw [Int32.lt_iff_toInt_lt] at h q
  have e1 : Int32.toInt (-1) = -1 := by decide
  have e2 : Int32.toInt 0 = 0 := by decide
  rw [e1] at h
  rw [e2] at q
  exact h1 (Int32.toInt_inj.mp (by rw [e1]; omega))
theorem k_livesN {z : Int32} (hz : z < -1) (M : Mem) (Q : Int32 → Mem → Prop) : WI (d + 1) i_KN_lives [.ref 0, .int z] M Q ↔ Q (-1) M := by
  rw [E_KN_lives, if_pos hz]
theorem w_6 {n : Nat} (hn : n ≤ 6) {ok : List Nat → Bool} {s : List Nat} (h : s ∈ wAll n ok) : s.length ≤ 6 := by
  have := (w_len hn h).2.1
  omega
theorem k_livesY (h : ClR I J ns ct ps im tx tr) {z : Int32} (hz : ¬ z < -1) (Q : Int32 → Mem → Prop) (hQ : ∀ I', ClR I' J ns ct ps im tx tr → FrR 0 248 I I' → Q (livA (wAll ns.length (okB ns (tieAll [] ct))) z) (mm L I' J)) : WI (d + 11) i_KN_lives [.ref 0, .int z] (mm L I J) Q := by
  have n6 := h.1.2.1
  rw [E_KN_lives, if_neg hz]
  simp only [mm_C, mm_R, mm_L, mm_I, mm_sI, CL0, CL1, CL3, CL5, CL19, RR0_0, RR0_1, RR0_2, RR3_1, n1, n3, n5, n19, ↓reduceIte, RR0_5, n183, CL183]
  refine c_readBack h.1 _ (fun I' g1 g2 g3 => ?_)
  have hq := hQ I' (ClR_sc h g3 (by omega) (by omega)) (FrR_w g3 (by omega) (by omega))
  obtain ⟨l1, l2, l3⟩ := g1
  simp only [mm_C, mm_R, mm_L, mm_I, mm_sI, CL0, CL1, CL3, CL5, CL19, RR0_0, RR0_1, RR0_2, RR3_1, n1, n3, n5, n19, ↓reduceIte, RR0_5, n183, CL183, l1, RR183_3, n189, CL189, LN189]
  unfold livA at hq
  by_cases z1 : z = -1
  · rw [if_pos z1] at hq
    rw [if_pos z1]
    exact hq
  · rw [if_neg z1] at hq
    rw [if_neg z1]
    obtain ⟨k, k1, k2⟩ := lt_m1 hz z1
    cases e : fmo (wAll ns.length (okB ns (tieAll [] ct))) with
    | none =>
      rw [e] at hq
      have e0 := (fmo_none _).mp e
      rw [if_pos (by rw [e0]; rfl)]
      exact hq
    | some x =>
      rw [e] at hq
      have nz : 0 < (wAll ns.length (okB ns (tieAll [] ct))).length := by
        rcases Nat.eq_zero_or_pos (wAll ns.length (okB ns (tieAll [] ct))).length with q | q
        · rw [(fmo_none _).mpr (List.eq_nil_of_length_eq_zero q)] at e; cases e
        · exact q
      obtain ⟨m1, m2⟩ := l2 x e
      have x6 := w_6 n6 (fmo_is _ x e).1
      have hq : Q (if z < nI x.length then nI (x.getD z.toNatClampNeg 0) else -5) (mm L I' J) := hq
      rw [if_neg (nI_ne0 nz (by omega)), m1]
      by_cases c : z < nI x.length
      · rw [if_pos c] at hq
        have kx : k < x.length := by
          rw [k2] at c
          exact (nI_ltI k1 (by omega)).mp c
        rw [if_pos c, k2, if_pos (show rdI 10 ∧ inb (nI k) 6 from ⟨by decide, inb_nI (by omega) (by omega)⟩), ix_nI k1, m2 k kx]
        rw [k2, ix_nI k1] at hq
        exact hq
      · rw [if_neg c] at hq
        rw [if_neg c]
        exact hq
theorem k_next (h : ClR I J ns ct ps im tx tr) (Q : Int32 → Mem → Prop) (hQ : ∀ I', ClR I' J ns ct ps im tx tr → FrR 0 248 I I' → Q (nexA (wAll ns.length (okB ns (tieAll [] ct)))) (mm L I' J)) : WI (d + 11) i_KN_next [.ref 0] (mm L I J) Q := by
  have n6 := h.1.2.1
  rw [E_KN_next]
  simp only [mm_C, mm_R, mm_L, mm_I, mm_sI, CL0, CL1, CL3, CL5, CL19, RR0_0, RR0_1, RR0_2, RR3_1, n1, n3, n5, n19, ↓reduceIte, RR0_5, n183, CL183]
  refine c_readBack h.1 _ (fun I' g1 g2 g3 => ?_)
  have hq := hQ I' (ClR_sc h g3 (by omega) (by omega)) (FrR_w g3 (by omega) (by omega))
  obtain ⟨l1, l2, l3⟩ := g1
  simp only [mm_C, mm_R, mm_L, mm_I, mm_sI, CL0, CL1, CL3, CL5, CL19, RR0_0, RR0_1, RR0_2, RR3_1, n1, n3, n5, n19, ↓reduceIte, RR0_5, n183, CL183, l1]
  unfold nexA at hq
  cases e : fmo (wAll ns.length (okB ns (tieAll [] ct))) with
  | none =>
    rw [e] at hq
    have e0 := (fmo_none _).mp e
    rw [if_pos (by rw [e0]; rfl)]
    exact hq
  | some x =>
    rw [e] at hq
    have nz : 0 < (wAll ns.length (okB ns (tieAll [] ct))).length := by
      rcases Nat.eq_zero_or_pos (wAll ns.length (okB ns (tieAll [] ct))).length with q | q
      · rw [(fmo_none _).mpr (List.eq_nil_of_length_eq_zero q)] at e; cases e
      · exact q
    rw [if_neg (nI_ne0 nz (by omega)), E_Lives_inMost]
    have lp := c_inMost_loop (d := d + 10) (L := L) (I := I') (J := J) (QI Q) 5 0 1 (by omega) (by omega)
    rw [nI_0] at lp
    refine lp.mpr ?_
    rw [bst_cg (u := fun j => nI (cv (wAll ns.length (okB ns (tieAll [] ct))) j)) 5 0 1 (by omega) (by omega) l3]
    exact hq
end LvK
