section KN2
variable {d L : Nat} {I : Nat → Nat → Int32} {J : Nat → Nat → Int64} {ns : List (List Nat)} {ct : List Nat} {ps : List Cp} {im : Nat → Option Cp} {tx : List Nat} {tr : Int64}
theorem w3 {j : Nat} (hj : j < 6) : Rw (7 + 2 * j) 12 := (Cw_3.2.2.2.2.2.2.2 j hj).2
theorem w5 : Rw 5 12 := Cw_3.2.2.2.2.2.2.1
theorem r3 (h : Cl I 3 ns ct) {j : Nat} (hj : j < ns.length) : Rl I (7 + 2 * j) (nmO ns j) := (h.2.2.1 j hj).1
theorem l3 (h : Cl I 3 ns ct) {j : Nat} (hj : j < ns.length) : (nmO ns j).length ≤ 12 := (h.2.2.1 j hj).2
theorem r5 (h : Cl I 3 ns ct) : Rl I 5 ct := h.2.2.2.1
theorem c_name3 {j : Nat} (hj : j < 6) (Q : Nat → Mem → Prop) : WA d i_Camp_nameOf [.ref 3, .int (nI j)] (mm L I J) Q ↔ Q (7 + 2 * j) (mm L I J) := c_nameOf Cw_3 hj Q
theorem set3 {I' : Nat → Nat → Int32} {j : Nat} {x : List Nat} (hl : Cl I 3 ns ct) (hh : j < ns.length) (hF : Fr1 (7 + 2 * j) I I') (hx : Rl I' (7 + 2 * j) x) (hx2 : x.length ≤ 12) : Cl I' 3 (ns.set j x) ct := Cl_set hl hh hF hx hx2
theorem con3 {I' : Nat → Nat → Int32} {x : List Nat} (hl : Cl I 3 ns ct) (hF : Fr1 5 I I') (hx : Rl I' 5 x) (hx2 : x.length ≤ 12) : Cl I' 3 ns x := Cl_con hl hF hx hx2
theorem c_isTurnY {t : Nat} (ht : t < 6) (M : Mem) (Q : Int32 → Mem → Prop) : WI (d + 1) i_KN_isTurn [.int (nI t)] M Q ↔ Q 1 M := by
  have h1 : nI t ≤ nI 5 := nI_le (by omega) (by omega)
  have h1 : nI t ≤ 5 := h1
  rw [E_KN_isTurn, c_within, decide_eq_true ⟨nI_pos' (by omega), h1⟩, if_pos (by right; rfl)]
  exact Iff.rfl
theorem c_isTurnN {x : Int32} (hx : x < 0 ∨ 6 ≤ x) (M : Mem) (Q : Int32 → Mem → Prop) : WI (d + 1) i_KN_isTurn [.int x] M Q ↔ Q 0 M := by
  have hn : ¬ (0 ≤ x ∧ x ≤ 5) := fun q => hx.elim (fun h => absurd h (Int32.not_lt.mpr q.1)) (fun h => absurd (Int32.le_trans h q.2) (by decide))
  rw [E_KN_isTurn, c_within, decide_eq_false hn, if_pos (by left; rfl)]
  exact Iff.rfl
def fitB (l : List Nat) (t : Nat) : Prop := l.length < 12 ∨ l.getLast? = some (t ^^^ 1)
theorem fit_len {l : List Nat} {t : Nat} (h : fitB l t) (hl : l.length ≤ 12) : (tie l t).length ≤ 12 := by
  have := tie_len l t
  rcases h with h | h
  · omega
  · unfold tie
    rw [if_pos h, List.length_dropLast]
    omega
theorem k_tiesN (h : ClR I J ns ct ps im tx tr) {x y : Int32} (hx : x < 0 ∨ nI ns.length ≤ x) (Q : Int32 → Mem → Prop) : WI (d + 2) i_KN_ties [.ref 0, .int x, .int y] (mm L I J) Q ↔ Q (-1) (mm L I J) := by
  rw [E_KN_ties]
  simp only [mm_C, mm_R, mm_L, mm_I, mm_sI, CL0, CL1, CL3, CL5, CL19, RR0_0, RR0_1, RR0_2, RR3_1, n1, n3, n5, n19, ↓reduceIte]
  rw [c_hasN Cw_3 h.1 hx, if_pos rfl]
theorem k_tiesN2 (h : ClR I J ns ct ps im tx tr) {j : Nat} (hj : j < ns.length) {y : Int32} (hy : y < 0 ∨ 6 ≤ y) (Q : Int32 → Mem → Prop) : WI (d + 2) i_KN_ties [.ref 0, .int (nI j), .int y] (mm L I J) Q ↔ Q (-1) (mm L I J) := by
  rw [E_KN_ties]
  simp only [mm_C, mm_R, mm_L, mm_I, mm_sI, CL0, CL1, CL3, CL5, CL19, RR0_0, RR0_1, RR0_2, RR3_1, n1, n3, n5, n19, ↓reduceIte]
  rw [c_hasY Cw_3 h.1 hj, if_neg i10, c_isTurnN hy, if_pos rfl]
theorem k_tiesF (h : ClR I J ns ct ps im tx tr) {j : Nat} (hj : j < ns.length) {t : Nat} (ht : t < 6) (hf : ¬ fitB (nmO ns j) t) (Q : Int32 → Mem → Prop) : WI (d + 4) i_KN_ties [.ref 0, .int (nI j), .int (nI t)] (mm L I J) Q ↔ Q (-3) (mm L I J) := by
  have h6 := h.1.2.1
  rw [E_KN_ties]
  simp only [mm_C, mm_R, mm_L, mm_I, mm_sI, CL0, CL1, CL3, CL5, CL19, RR0_0, RR0_1, RR0_2, RR3_1, n1, n3, n5, n19, ↓reduceIte]
  rw [c_hasY Cw_3 h.1 hj, if_neg i10, c_isTurnY ht, if_neg i10]
  simp only [mm_C, mm_R, mm_L, mm_I, mm_sI, CL0, CL1, CL3, CL5, CL19, RR0_0, RR0_1, RR0_2, RR3_1, n1, n3, n5, n19, ↓reduceIte]
  have hf2 : ¬ ((nmO ns j).length < 12 ∨ (nmO ns j).getLast? = some (t ^^^ 1)) := hf
  rw [c_name3 (by omega), mm_C, if_pos (w3 (by omega)).1, c_takes (w3 (by omega)) (r3 h.1 hj) (l3 h.1 hj) ht, if_pos (if_neg hf2)]
theorem k_tiesY (h : ClR I J ns ct ps im tx tr) {j : Nat} (hj : j < ns.length) {t : Nat} (ht : t < 6) (hf : fitB (nmO ns j) t) (Q : Int32 → Mem → Prop) (hQ : ∀ I', ClR I' J (ns.set j (tie (nmO ns j) t)) ct (((ns, ct) :: ps).take 10) im tx tr → FrR 0 248 I I' → Q (nI (tie (nmO ns j) t).length) (mm L I' J)) : WI (d + 4) i_KN_ties [.ref 0, .int (nI j), .int (nI t)] (mm L I J) Q := by
  have h6 := h.1.2.1
  have w := w3 (show j < 6 by omega)
  have hx := fit_len hf (l3 h.1 hj)
  rw [E_KN_ties]
  simp only [mm_C, mm_R, mm_L, mm_I, mm_sI, CL0, CL1, CL3, CL5, CL19, RR0_0, RR0_1, RR0_2, RR3_1, n1, n3, n5, n19, ↓reduceIte]
  rw [c_hasY Cw_3 h.1 hj, if_neg i10, c_isTurnY ht, if_neg i10]
  simp only [mm_C, mm_R, mm_L, mm_I, mm_sI, CL0, CL1, CL3, CL5, CL19, RR0_0, RR0_1, RR0_2, RR3_1, n1, n3, n5, n19, ↓reduceIte]
  have hf2 : (nmO ns j).length < 12 ∨ (nmO ns j).getLast? = some (t ^^^ 1) := hf
  rw [c_name3 (by omega), mm_C, if_pos w.1, c_takes w (r3 h.1 hj) (l3 h.1 hj) ht, if_neg (show ¬ (if (nmO ns j).length < 12 ∨ (nmO ns j).getLast? = some (t ^^^ 1) then (1 : Int32) else 0) = 0 by rw [if_pos hf2]; decide)]
  simp only [mm_C, mm_R, mm_L, mm_I, mm_sI, CL0, CL1, CL3, CL5, CL19, RR0_0, RR0_1, RR0_2, RR3_1, n1, n3, n5, n19, ↓reduceIte]
  refine k_rem h _ (fun I' g1 g2 => ?_)
  rw [mm_C, if_pos w.1]
  refine c_tie w (r3 g1.1 hj) (l3 g1.1 hj) hx ht _ (fun I'' f1 f2 => ?_)
  rw [mm_C, if_pos w.1, mm_I, f1.1]
  exact hQ I'' (ClR_cur g1 (FrR_1 f2 (by omega) (by omega)) (set3 g1.1 hj f2 f1 hx)) (FrR_tr g2 (FrR_1 f2 (by omega) (by omega)))
theorem k_looN (h : ClR I J ns ct ps im tx tr) {x : Int32} (hx : x < 0 ∨ nI ns.length ≤ x) (Q : Int32 → Mem → Prop) : WI (d + 2) i_KN_loosens [.ref 0, .int x] (mm L I J) Q ↔ Q (-1) (mm L I J) := by
  rw [E_KN_loosens]
  simp only [mm_C, mm_R, mm_L, mm_I, mm_sI, CL0, CL1, CL3, CL5, CL19, RR0_0, RR0_1, RR0_2, RR3_1, n1, n3, n5, n19, ↓reduceIte]
  rw [c_hasN Cw_3 h.1 hx, if_pos rfl]
theorem k_looE (h : ClR I J ns ct ps im tx tr) {j : Nat} (hj : j < ns.length) (h0 : (nmO ns j).length = 0) (Q : Int32 → Mem → Prop) : WI (d + 4) i_KN_loosens [.ref 0, .int (nI j)] (mm L I J) Q ↔ Q (-2) (mm L I J) := by
  have h6 := h.1.2.1
  have w := w3 (show j < 6 by omega)
  rw [E_KN_loosens]
  simp only [mm_C, mm_R, mm_L, mm_I, mm_sI, CL0, CL1, CL3, CL5, CL19, RR0_0, RR0_1, RR0_2, RR3_1, n1, n3, n5, n19, ↓reduceIte]
  rw [c_hasY Cw_3 h.1 hj, if_neg i10]
  simp only [mm_C, mm_R, mm_L, mm_I, mm_sI, CL0, CL1, CL3, CL5, CL19, RR0_0, RR0_1, RR0_2, RR3_1, n1, n3, n5, n19, ↓reduceIte]
  rw [c_name3 (by omega), mm_C, if_pos w.1, mm_I, (r3 h.1 hj).1, h0, if_pos (by decide)]
theorem k_looY (h : ClR I J ns ct ps im tx tr) {j : Nat} (hj : j < ns.length) (h0 : 0 < (nmO ns j).length) (Q : Int32 → Mem → Prop) (hQ : ∀ I', ClR I' J (ns.set j (nmO ns j).dropLast) ct (((ns, ct) :: ps).take 10) im tx tr → FrR 0 248 I I' → Q (nI ((nmO ns j).getD ((nmO ns j).length - 1) 0)) (mm L I' J)) : WI (d + 4) i_KN_loosens [.ref 0, .int (nI j)] (mm L I J) Q := by
  have h6 := h.1.2.1
  have w := w3 (show j < 6 by omega)
  have l12 := l3 h.1 hj
  rw [E_KN_loosens]
  simp only [mm_C, mm_R, mm_L, mm_I, mm_sI, CL0, CL1, CL3, CL5, CL19, RR0_0, RR0_1, RR0_2, RR3_1, n1, n3, n5, n19, ↓reduceIte]
  rw [c_hasY Cw_3 h.1 hj, if_neg i10]
  simp only [mm_C, mm_R, mm_L, mm_I, mm_sI, CL0, CL1, CL3, CL5, CL19, RR0_0, RR0_1, RR0_2, RR3_1, n1, n3, n5, n19, ↓reduceIte]
  rw [c_name3 (by omega), mm_C, if_pos w.1, mm_I, (r3 h.1 hj).1, if_neg (nI_ne0 h0 (by omega))]
  simp only [mm_C, mm_R, mm_L, mm_I, mm_sI, CL0, CL1, CL3, CL5, CL19, RR0_0, RR0_1, RR0_2, RR3_1, n1, n3, n5, n19, ↓reduceIte]
  refine k_rem h _ (fun I' g1 g2 => ?_)
  rw [mm_C, if_pos w.1, c_last w (r3 g1.1 hj) (l3 g1.1 hj) h0, mm_C, if_pos w.1]
  refine c_dropLast w (r3 g1.1 hj) (l3 g1.1 hj) _ (fun I'' f1 f2 => ?_)
  exact hQ I'' (ClR_cur g1 (FrR_1 f2 (by omega) (by omega)) (set3 g1.1 hj f2 f1 (by rw [List.length_dropLast]; omega))) (FrR_tr g2 (FrR_1 f2 (by omega) (by omega)))
theorem k_untN (h : ClR I J ns ct ps im tx tr) {x : Int32} (hx : x < 0 ∨ nI ns.length ≤ x) (Q : Int32 → Mem → Prop) : WI (d + 2) i_KN_unties [.ref 0, .int x] (mm L I J) Q ↔ Q (-1) (mm L I J) := by
  rw [E_KN_unties]
  simp only [mm_C, mm_R, mm_L, mm_I, mm_sI, CL0, CL1, CL3, CL5, CL19, RR0_0, RR0_1, RR0_2, RR3_1, n1, n3, n5, n19, ↓reduceIte]
  rw [c_hasN Cw_3 h.1 hx, if_pos rfl]
theorem k_untY (h : ClR I J ns ct ps im tx tr) {j : Nat} (hj : j < ns.length) (Q : Int32 → Mem → Prop) (hQ : ∀ I', ClR I' J (ns.set j []) ct (((ns, ct) :: ps).take 10) im tx tr → FrR 0 248 I I' → Q (nI (nmO ns j).length) (mm L I' J)) : WI (d + 4) i_KN_unties [.ref 0, .int (nI j)] (mm L I J) Q := by
  have h6 := h.1.2.1
  have w := w3 (show j < 6 by omega)
  rw [E_KN_unties]
  simp only [mm_C, mm_R, mm_L, mm_I, mm_sI, CL0, CL1, CL3, CL5, CL19, RR0_0, RR0_1, RR0_2, RR3_1, n1, n3, n5, n19, ↓reduceIte]
  rw [c_hasY Cw_3 h.1 hj, if_neg i10]
  simp only [mm_C, mm_R, mm_L, mm_I, mm_sI, CL0, CL1, CL3, CL5, CL19, RR0_0, RR0_1, RR0_2, RR3_1, n1, n3, n5, n19, ↓reduceIte]
  refine k_rem h _ (fun I' g1 g2 => ?_)
  simp only [mm_C, mm_R, mm_L, mm_I, mm_sI, CL0, CL1, CL3, CL5, CL19, RR0_0, RR0_1, RR0_2, RR3_1, n1, n3, n5, n19, ↓reduceIte]
  rw [c_name3 (by omega), mm_C, if_pos w.1]
  refine c_empty w (r3 g1.1 hj) _ (fun I'' f1 f2 => ?_)
  exact hQ I'' (ClR_cur g1 (FrR_1 f2 (by omega) (by omega)) (set3 g1.1 hj f2 f1 (Nat.zero_le _))) (FrR_tr g2 (FrR_1 f2 (by omega) (by omega)))
theorem k_addN {x : Int32} (hx : x < 0 ∨ 6 ≤ x) (M : Mem) (Q : Int32 → Mem → Prop) : WI (d + 2) i_KN_adds [.ref 0, .int x] M Q ↔ Q (-1) M := by
  rw [E_KN_adds, c_isTurnN hx, if_pos rfl]
theorem k_addF (h : ClR I J ns ct ps im tx tr) {t : Nat} (ht : t < 6) (hf : ct.length = 12) (Q : Int32 → Mem → Prop) : WI (d + 4) i_KN_adds [.ref 0, .int (nI t)] (mm L I J) Q ↔ Q (-3) (mm L I J) := by
  have e : I 5 1 = nI 12 := by rw [(r5 h.1).1, hf]
  rw [E_KN_adds, c_isTurnY ht, if_neg i10]
  simp only [mm_C, mm_R, mm_L, mm_I, mm_sI, CL0, CL1, CL3, CL5, CL19, RR0_0, RR0_1, RR0_2, RR3_1, n1, n3, n5, n19, ↓reduceIte, e]
  rw [if_neg (by decide)]
theorem k_addY (h : ClR I J ns ct ps im tx tr) {t : Nat} (ht : t < 6) (hf : ct.length < 12) (Q : Int32 → Mem → Prop) (hQ : ∀ I', ClR I' J ns (ct ++ [t]) (((ns, ct) :: ps).take 10) im tx tr → FrR 0 248 I I' → Q (nI (ct.length + 1)) (mm L I' J)) : WI (d + 4) i_KN_adds [.ref 0, .int (nI t)] (mm L I J) Q := by
  have e : I 5 1 = nI ct.length := (r5 h.1).1
  have e2 : nI ct.length < nI 12 := nI_lt hf (by omega)
  have e2 : nI ct.length < 12 := e2
  rw [E_KN_adds, c_isTurnY ht, if_neg i10]
  simp only [mm_C, mm_R, mm_L, mm_I, mm_sI, CL0, CL1, CL3, CL5, CL19, RR0_0, RR0_1, RR0_2, RR3_1, n1, n3, n5, n19, ↓reduceIte, e]
  rw [if_pos e2]
  refine k_rem h _ (fun I' g1 g2 => ?_)
  simp only [mm_C, mm_R, mm_L, mm_I, mm_sI, CL0, CL1, CL3, CL5, CL19, RR0_0, RR0_1, RR0_2, RR3_1, n1, n3, n5, n19, ↓reduceIte]
  refine c_append w5 (r5 g1.1) hf ht _ (fun I'' f1 f2 => ?_)
  simp only [mm_C, mm_R, mm_L, mm_I, mm_sI, CL0, CL1, CL3, CL5, CL19, RR0_0, RR0_1, RR0_2, RR3_1, n1, n3, n5, n19, ↓reduceIte, f1.1]
  rw [List.length_append]
  exact hQ I'' (ClR_cur g1 (FrR_1 f2 (by omega) (by omega)) (con3 g1.1 f2 f1 (by rw [List.length_append, List.length_singleton]; omega))) (FrR_tr g2 (FrR_1 f2 (by omega) (by omega)))
theorem k_tears (h : ClR I J ns ct ps im tx tr) (Q : Int32 → Mem → Prop) (hQ : ∀ I', ClR I' J ns [] (((ns, ct) :: ps).take 10) im tx tr → FrR 0 248 I I' → Q (nI ct.length) (mm L I' J)) : WI (d + 4) i_KN_tears [.ref 0] (mm L I J) Q := by
  rw [E_KN_tears]
  simp only [mm_C, mm_R, mm_L, mm_I, mm_sI, CL0, CL1, CL3, CL5, CL19, RR0_0, RR0_1, RR0_2, RR3_1, n1, n3, n5, n19, ↓reduceIte]
  refine k_rem h _ (fun I' g1 g2 => ?_)
  simp only [mm_C, mm_R, mm_L, mm_I, mm_sI, CL0, CL1, CL3, CL5, CL19, RR0_0, RR0_1, RR0_2, RR3_1, n1, n3, n5, n19, ↓reduceIte]
  refine c_empty w5 (r5 g1.1) _ (fun I'' f1 f2 => ?_)
  exact hQ I'' (ClR_cur g1 (FrR_1 f2 (by omega) (by omega)) (con3 g1.1 f2 f1 (Nat.zero_le _))) (FrR_tr g2 (FrR_1 f2 (by omega) (by omega)))
theorem k_alikeN (h : ClR I J ns ct ps im tx tr) {x : Int32} (hx : x < 0 ∨ nI ns.length ≤ x) (Q : Int32 → Mem → Prop) : WI (d + 2) i_KN_alike [.ref 0, .int x] (mm L I J) Q ↔ Q (-1) (mm L I J) := by
  rw [E_KN_alike]
  simp only [mm_C, mm_R, mm_L, mm_I, mm_sI, CL0, CL1, CL3, CL5, CL19, RR0_0, RR0_1, RR0_2, RR3_1, n1, n3, n5, n19, ↓reduceIte]
  rw [c_hasN Cw_3 h.1 hx, if_pos rfl]
theorem k_alikeY (h : ClR I J ns ct ps im tx tr) {j : Nat} (hj : j < ns.length) (Q : Int32 → Mem → Prop) : WI (d + 4) i_KN_alike [.ref 0, .int (nI j)] (mm L I J) Q ↔ Q (likS ns j) (mm L I J) := by
  rw [E_KN_alike]
  simp only [mm_C, mm_R, mm_L, mm_I, mm_sI, CL0, CL1, CL3, CL5, CL19, RR0_0, RR0_1, RR0_2, RR3_1, n1, n3, n5, n19, ↓reduceIte]
  rw [c_hasY Cw_3 h.1 hj, if_neg i10]
  simp only [mm_C, mm_R, mm_L, mm_I, mm_sI, CL0, CL1, CL3, CL5, CL19, RR0_0, RR0_1, RR0_2, RR3_1, n1, n3, n5, n19, ↓reduceIte]
  rw [c_like Cw_3 h.1 hj]
theorem k_rootN (h : ClR I J ns ct ps im tx tr) {x : Int32} (hx : x < 0 ∨ nI ns.length ≤ x) (Q : Int32 → Mem → Prop) : WI (d + 2) i_KN_root [.ref 0, .int x] (mm L I J) Q ↔ Q (-1) (mm L I J) := by
  rw [E_KN_root]
  simp only [mm_C, mm_R, mm_L, mm_I, mm_sI, CL0, CL1, CL3, CL5, CL19, RR0_0, RR0_1, RR0_2, RR3_1, n1, n3, n5, n19, ↓reduceIte]
  rw [c_hasN Cw_3 h.1 hx, if_pos rfl]
theorem k_rootY (h : ClR I J ns ct ps im tx tr) {j : Nat} (hj : j < ns.length) (Q : Int32 → Mem → Prop) : WI (d + 3) i_KN_root [.ref 0, .int (nI j)] (mm L I J) Q ↔ Q (nI (roo (nmO ns j))) (mm L I J) := by
  have h6 := h.1.2.1
  have w := w3 (show j < 6 by omega)
  rw [E_KN_root]
  simp only [mm_C, mm_R, mm_L, mm_I, mm_sI, CL0, CL1, CL3, CL5, CL19, RR0_0, RR0_1, RR0_2, RR3_1, n1, n3, n5, n19, ↓reduceIte]
  rw [c_hasY Cw_3 h.1 hj, if_neg i10]
  simp only [mm_C, mm_R, mm_L, mm_I, mm_sI, CL0, CL1, CL3, CL5, CL19, RR0_0, RR0_1, RR0_2, RR3_1, n1, n3, n5, n19, ↓reduceIte]
  rw [c_name3 (by omega), mm_C, if_pos w.1, c_root w (r3 h.1 hj) (l3 h.1 hj)]
theorem k_wayN (h : ClR I J ns ct ps im tx tr) {x y : Int32} (hx : x < 0 ∨ nI ns.length ≤ x) (Q : Int32 → Mem → Prop) : WI (d + 2) i_KN_way [.ref 0, .int x, .int y] (mm L I J) Q ↔ Q (-1) (mm L I J) := by
  rw [E_KN_way]
  simp only [mm_C, mm_R, mm_L, mm_I, mm_sI, CL0, CL1, CL3, CL5, CL19, RR0_0, RR0_1, RR0_2, RR3_1, n1, n3, n5, n19, ↓reduceIte]
  rw [c_hasN Cw_3 h.1 hx, if_pos rfl]
theorem k_wayN2 (h : ClR I J ns ct ps im tx tr) {j : Nat} (hj : j < ns.length) {y : Int32} (hy : y < 0 ∨ nI ns.length ≤ y) (Q : Int32 → Mem → Prop) : WI (d + 2) i_KN_way [.ref 0, .int (nI j), .int y] (mm L I J) Q ↔ Q (-1) (mm L I J) := by
  rw [E_KN_way]
  simp only [mm_C, mm_R, mm_L, mm_I, mm_sI, CL0, CL1, CL3, CL5, CL19, RR0_0, RR0_1, RR0_2, RR3_1, n1, n3, n5, n19, ↓reduceIte]
  rw [c_hasY Cw_3 h.1 hj, if_neg i10]
  simp only [mm_C, mm_R, mm_L, mm_I, mm_sI, CL0, CL1, CL3, CL5, CL19, RR0_0, RR0_1, RR0_2, RR3_1, n1, n3, n5, n19, ↓reduceIte]
  rw [c_hasN Cw_3 h.1 hy, if_pos rfl]
theorem k_wayY (h : ClR I J ns ct ps im tx tr) {j e : Nat} (hj : j < ns.length) (he : e < ns.length) (Q : Int32 → Mem → Prop) : WI (d + 3) i_KN_way [.ref 0, .int (nI j), .int (nI e)] (mm L I J) Q ↔ Q (nI (nmO ns j).length + nI (nmO ns e).length - 2 * nI (lcp (nmO ns j) (nmO ns e))) (mm L I J) := by
  have h6 := h.1.2.1
  have w := w3 (show j < 6 by omega)
  have v := w3 (show e < 6 by omega)
  rw [E_KN_way]
  simp only [mm_C, mm_R, mm_L, mm_I, mm_sI, CL0, CL1, CL3, CL5, CL19, RR0_0, RR0_1, RR0_2, RR3_1, n1, n3, n5, n19, ↓reduceIte]
  rw [c_hasY Cw_3 h.1 hj, if_neg i10]
  simp only [mm_C, mm_R, mm_L, mm_I, mm_sI, CL0, CL1, CL3, CL5, CL19, RR0_0, RR0_1, RR0_2, RR3_1, n1, n3, n5, n19, ↓reduceIte]
  rw [c_hasY Cw_3 h.1 he, if_neg i10]
  simp only [mm_C, mm_R, mm_L, mm_I, mm_sI, CL0, CL1, CL3, CL5, CL19, RR0_0, RR0_1, RR0_2, RR3_1, n1, n3, n5, n19, ↓reduceIte]
  rw [c_name3 (by omega)]
  simp only [mm_C, mm_R, mm_L, mm_I, mm_sI, CL0, CL1, CL3, CL5, CL19, RR0_0, RR0_1, RR0_2, RR3_1, n1, n3, n5, n19, ↓reduceIte]
  rw [c_name3 (by omega), mm_C, mm_I, if_pos w.1, if_pos v.1, if_pos w.1, c_common w v (r3 h.1 hj) (r3 h.1 he) (l3 h.1 hj) (l3 h.1 he), (r3 h.1 hj).1, (r3 h.1 he).1]
end KN2
