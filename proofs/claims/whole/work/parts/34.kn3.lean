def bcE (p1 : Int32) : Int32 := ((((((((p1 - ((Int32.toUInt32 p1 >>> (Int32.toUInt32 (1 : Int32) &&& Int32.toUInt32 31)).toInt32 &&& (1431655765 : Int32))) &&& (858993459 : Int32)) + ((Int32.toUInt32 (p1 - ((Int32.toUInt32 p1 >>> (Int32.toUInt32 (1 : Int32) &&& Int32.toUInt32 31)).toInt32 &&& (1431655765 : Int32))) >>> (Int32.toUInt32 (2 : Int32) &&& Int32.toUInt32 31)).toInt32 &&& (858993459 : Int32))) + (Int32.toUInt32 (((p1 - ((Int32.toUInt32 p1 >>> (Int32.toUInt32 (1 : Int32) &&& Int32.toUInt32 31)).toInt32 &&& (1431655765 : Int32))) &&& (858993459 : Int32)) + ((Int32.toUInt32 (p1 - ((Int32.toUInt32 p1 >>> (Int32.toUInt32 (1 : Int32) &&& Int32.toUInt32 31)).toInt32 &&& (1431655765 : Int32))) >>> (Int32.toUInt32 (2 : Int32) &&& Int32.toUInt32 31)).toInt32 &&& (858993459 : Int32))) >>> (Int32.toUInt32 (4 : Int32) &&& Int32.toUInt32 31)).toInt32) &&& (252645135 : Int32)) + (Int32.toUInt32 (((((p1 - ((Int32.toUInt32 p1 >>> (Int32.toUInt32 (1 : Int32) &&& Int32.toUInt32 31)).toInt32 &&& (1431655765 : Int32))) &&& (858993459 : Int32)) + ((Int32.toUInt32 (p1 - ((Int32.toUInt32 p1 >>> (Int32.toUInt32 (1 : Int32) &&& Int32.toUInt32 31)).toInt32 &&& (1431655765 : Int32))) >>> (Int32.toUInt32 (2 : Int32) &&& Int32.toUInt32 31)).toInt32 &&& (858993459 : Int32))) + (Int32.toUInt32 (((p1 - ((Int32.toUInt32 p1 >>> (Int32.toUInt32 (1 : Int32) &&& Int32.toUInt32 31)).toInt32 &&& (1431655765 : Int32))) &&& (858993459 : Int32)) + ((Int32.toUInt32 (p1 - ((Int32.toUInt32 p1 >>> (Int32.toUInt32 (1 : Int32) &&& Int32.toUInt32 31)).toInt32 &&& (1431655765 : Int32))) >>> (Int32.toUInt32 (2 : Int32) &&& Int32.toUInt32 31)).toInt32 &&& (858993459 : Int32))) >>> (Int32.toUInt32 (4 : Int32) &&& Int32.toUInt32 31)).toInt32) &&& (252645135 : Int32)) >>> (Int32.toUInt32 (8 : Int32) &&& Int32.toUInt32 31)).toInt32) + (Int32.toUInt32 ((((((p1 - ((Int32.toUInt32 p1 >>> (Int32.toUInt32 (1 : Int32) &&& Int32.toUInt32 31)).toInt32 &&& (1431655765 : Int32))) &&& (858993459 : Int32)) + ((Int32.toUInt32 (p1 - ((Int32.toUInt32 p1 >>> (Int32.toUInt32 (1 : Int32) &&& Int32.toUInt32 31)).toInt32 &&& (1431655765 : Int32))) >>> (Int32.toUInt32 (2 : Int32) &&& Int32.toUInt32 31)).toInt32 &&& (858993459 : Int32))) + (Int32.toUInt32 (((p1 - ((Int32.toUInt32 p1 >>> (Int32.toUInt32 (1 : Int32) &&& Int32.toUInt32 31)).toInt32 &&& (1431655765 : Int32))) &&& (858993459 : Int32)) + ((Int32.toUInt32 (p1 - ((Int32.toUInt32 p1 >>> (Int32.toUInt32 (1 : Int32) &&& Int32.toUInt32 31)).toInt32 &&& (1431655765 : Int32))) >>> (Int32.toUInt32 (2 : Int32) &&& Int32.toUInt32 31)).toInt32 &&& (858993459 : Int32))) >>> (Int32.toUInt32 (4 : Int32) &&& Int32.toUInt32 31)).toInt32) &&& (252645135 : Int32)) + (Int32.toUInt32 (((((p1 - ((Int32.toUInt32 p1 >>> (Int32.toUInt32 (1 : Int32) &&& Int32.toUInt32 31)).toInt32 &&& (1431655765 : Int32))) &&& (858993459 : Int32)) + ((Int32.toUInt32 (p1 - ((Int32.toUInt32 p1 >>> (Int32.toUInt32 (1 : Int32) &&& Int32.toUInt32 31)).toInt32 &&& (1431655765 : Int32))) >>> (Int32.toUInt32 (2 : Int32) &&& Int32.toUInt32 31)).toInt32 &&& (858993459 : Int32))) + (Int32.toUInt32 (((p1 - ((Int32.toUInt32 p1 >>> (Int32.toUInt32 (1 : Int32) &&& Int32.toUInt32 31)).toInt32 &&& (1431655765 : Int32))) &&& (858993459 : Int32)) + ((Int32.toUInt32 (p1 - ((Int32.toUInt32 p1 >>> (Int32.toUInt32 (1 : Int32) &&& Int32.toUInt32 31)).toInt32 &&& (1431655765 : Int32))) >>> (Int32.toUInt32 (2 : Int32) &&& Int32.toUInt32 31)).toInt32 &&& (858993459 : Int32))) >>> (Int32.toUInt32 (4 : Int32) &&& Int32.toUInt32 31)).toInt32) &&& (252645135 : Int32)) >>> (Int32.toUInt32 (8 : Int32) &&& Int32.toUInt32 31)).toInt32) >>> (Int32.toUInt32 (16 : Int32) &&& Int32.toUInt32 31)).toInt32) &&& (63 : Int32))
theorem c_bc (d : Nat) (x : Int32) (M : Mem) (Q : Int32 → Mem → Prop) : WI d i_JInt_bitCount [.int x] M Q ↔ Q (bcE x) M := E_JInt_bitCount d x M Q
def pop (m : Nat) : Nat := m % 2 + m / 2 % 2 + m / 4 % 2 + m / 8 % 2 + m / 16 % 2 + m / 32 % 2
theorem bcE_F : ∀ m : Fin 64, bcE (nI m.1) = nI (pop m.1) := by decide +kernel
theorem bcE_p {m : Nat} (h : m < 64) : bcE (nI m) = nI (pop m) := bcE_F ⟨m, h⟩
theorem pop_F : ∀ m : Fin 64, pop m.1 ≤ 6 ∧ (pop m.1 = 0 → m.1 = 0) := by decide +kernel
theorem or_F : ∀ s : Fin 64, ∀ k : Fin 6, nI s.1 ||| ((1 : Int32) <<< (nI k.1 &&& 31)) = nI (s.1 ||| 2 ^ k.1) ∧ (s.1 ||| 2 ^ k.1) < 64 ∧ s.1 ≤ (s.1 ||| 2 ^ k.1) ∧ 0 < (s.1 ||| 2 ^ k.1) := by decide +kernel
/-- a set as a number -/
def btN (P : Nat → Bool) : Nat → Nat → Nat → Nat
  | 0, _, s => s
  | n + 1, k, s => btN P n (k + 1) (if P k = true then s ||| 2 ^ k else s)
theorem bts_N (P : Nat → Bool) : ∀ n k s, k + n ≤ 6 → s < 64 → bts P n k (nI s) = nI (btN P n k s) ∧ btN P n k s < 64 ∧ s ≤ btN P n k s ∧ (∀ j, k ≤ j → j < k + n → P j = true → 0 < btN P n k s) := by
  intro n
  induction n with
  | zero => intro k s _ hs; exact ⟨rfl, hs, Nat.le_refl _, fun j h1 h2 => by omega⟩
  | succ n ih =>
    intro k s hk hs
    obtain ⟨o1, o2, o3, o4⟩ := or_F ⟨s, hs⟩ ⟨k, by omega⟩
    have o1 : nI s ||| ((1 : Int32) <<< (nI k &&& 31)) = nI (s ||| 2 ^ k) := o1
    have o2 : s ||| 2 ^ k < 64 := o2
    have o3 : s ≤ s ||| 2 ^ k := o3
    have o4 : 0 < s ||| 2 ^ k := o4
    unfold bts btN
    by_cases h : P k = true
    · rw [if_pos h, if_pos h, o1]
      obtain ⟨i1, i2, i3, i4⟩ := ih (k + 1) (s ||| 2 ^ k) (by omega) o2
      exact ⟨i1, i2, by omega, fun j _ _ _ => by omega⟩
    · rw [if_neg h, if_neg h]
      obtain ⟨i1, i2, i3, i4⟩ := ih (k + 1) s (by omega) hs
      refine ⟨i1, i2, i3, fun j h1 h2 hp => ?_⟩
      by_cases e : j = k
      · rw [e] at hp; exact absurd hp h
      · exact i4 j (by omega) (by omega) hp
section KN3
variable {d L : Nat} {I : Nat → Nat → Int32} {J : Nat → Nat → Int64} {ns : List (List Nat)} {ct : List Nat} {ps : List Cp} {im : Nat → Option Cp} {tx : List Nat} {tr : Int64}
def likN (ns : List (List Nat)) (h : Nat) : Nat := btN (likP ns h) ns.length 0 0
theorem lik_N (h6 : ns.length ≤ 6) {j : Nat} (hj : j < ns.length) : likS ns j = nI (likN ns j) ∧ likN ns j < 64 ∧ 0 < likN ns j := by
  have := bts_N (likP ns j) ns.length 0 0 (by omega) (by omega)
  rw [nI_0] at this
  exact ⟨this.1, this.2.1, this.2.2.2 j (by omega) (by omega) (decide_eq_true rfl)⟩
def rngP (ns : List (List Nat)) (j : Nat) : Nat → Bool := fun e => rngB (nmO ns j) (nmO ns e)
theorem k_ring_loop (h : ClR I J ns ct ps im tx tr) {j : Nat} (hj : j < ns.length) (Q : Option Value → Mem → Prop) : ∀ n k s, k + n = ns.length →
    (Wn (d + 3) i_KN_ring 17 [(0, .ref 0), (1, .int (nI j)), (2, .int s), (3, .int (nI k))] [] (mm L I J) Q ↔ Q (some (.int (bts (rngP ns j) n k s))) (mm L I J)) := by
  have h6 := h.1.2.1
  have t1 := h.1.1
  have w := w3 (show j < 6 by omega)
  intro n
  induction n with
  | zero =>
    intro k s hk
    rw [H_KN_ring_17]
    simp only [mm_C, mm_R, mm_L, mm_I, mm_sI, CL0, CL1, CL3, CL5, CL19, RR0_0, RR0_1, RR0_2, RR3_1, n1, n3, n5, n19, ↓reduceIte, t1]
    rw [if_neg (nI_nlt (by omega) (by omega))]
    rfl
  | succ n ih =>
    intro k s hk
    have v := w3 (show k < 6 by omega)
    rw [H_KN_ring_17]
    simp only [mm_C, mm_R, mm_L, mm_I, mm_sI, CL0, CL1, CL3, CL5, CL19, RR0_0, RR0_1, RR0_2, RR3_1, n1, n3, n5, n19, ↓reduceIte, t1]
    rw [if_pos (nI_lt (by omega) (by omega)), c_name3 (by omega)]
    simp only [mm_C, mm_R, mm_L, mm_I, mm_sI, CL0, CL1, CL3, CL5, CL19, RR0_0, RR0_1, RR0_2, RR3_1, n1, n3, n5, n19, ↓reduceIte]
    rw [c_name3 (by omega), mm_C, if_pos w.1, c_ring w v (r3 h.1 hj) (r3 h.1 (by omega)) (l3 h.1 hj) (l3 h.1 (by omega)), nI_1, ih _ _ (by omega), ih _ _ (by omega)]
    by_cases e : rngB (nmO ns j) (nmO ns k) = true
    · rw [if_neg (fun q => by rw [bI_0.mp q] at e; cases e), bts_t (P := rngP ns j) e]
    · have e : rngB (nmO ns j) (nmO ns k) = false := by simpa using e
      rw [if_pos (bI_0.mpr e), bts_f (P := rngP ns j) e]
theorem k_ringN (h : ClR I J ns ct ps im tx tr) {x : Int32} (hx : x < 0 ∨ nI ns.length ≤ x) (Q : Int32 → Mem → Prop) : WI (d + 2) i_KN_ring [.ref 0, .int x] (mm L I J) Q ↔ Q (-1) (mm L I J) := by
  rw [E_KN_ring]
  simp only [mm_C, mm_R, mm_L, mm_I, mm_sI, CL0, CL1, CL3, CL5, CL19, RR0_0, RR0_1, RR0_2, RR3_1, n1, n3, n5, n19, ↓reduceIte]
  rw [c_hasN Cw_3 h.1 hx, if_pos rfl]
theorem k_ringY (h : ClR I J ns ct ps im tx tr) {j : Nat} (hj : j < ns.length) (Q : Int32 → Mem → Prop) : WI (d + 3) i_KN_ring [.ref 0, .int (nI j)] (mm L I J) Q ↔ Q (bts (rngP ns j) ns.length 0 0) (mm L I J) := by
  rw [E_KN_ring]
  simp only [mm_C, mm_R, mm_L, mm_I, mm_sI, CL0, CL1, CL3, CL5, CL19, RR0_0, RR0_1, RR0_2, RR3_1, n1, n3, n5, n19, ↓reduceIte]
  rw [c_hasY Cw_3 h.1 hj, if_neg i10]
  exact k_ring_loop h hj (QI Q) ns.length 0 0 (by omega)
def ordP (ns : List (List Nat)) (j : Nat) : Nat → Bool := fun e => decide (cmpR (nmO ns e) (nmO ns j) < 0 ∨ (cmpR (nmO ns e) (nmO ns j) = 0 ∧ e < j))
theorem k_order_loop (h : ClR I J ns ct ps im tx tr) {j : Nat} (hj : j < ns.length) (Q : Option Value → Mem → Prop) : ∀ n k s, k + n = ns.length →
    (Wn (d + 3) i_KN_order 17 [(0, .ref 0), (1, .int (nI j)), (2, .int (nI s)), (3, .int (nI k))] [] (mm L I J) Q ↔ Q (some (.int (nI (s + cnt (ordP ns j) n k)))) (mm L I J)) := by
  have h6 := h.1.2.1
  have t1 := h.1.1
  have w := w3 (show j < 6 by omega)
  intro n
  induction n with
  | zero =>
    intro k s hk
    rw [H_KN_order_17]
    simp only [mm_C, mm_R, mm_L, mm_I, mm_sI, CL0, CL1, CL3, CL5, CL19, RR0_0, RR0_1, RR0_2, RR3_1, n1, n3, n5, n19, ↓reduceIte, t1]
    rw [if_neg (nI_nlt (by omega) (by omega))]
    rfl
  | succ n ih =>
    intro k s hk
    have v := w3 (show k < 6 by omega)
    rw [H_KN_order_17]
    simp only [mm_C, mm_R, mm_L, mm_I, mm_sI, CL0, CL1, CL3, CL5, CL19, RR0_0, RR0_1, RR0_2, RR3_1, n1, n3, n5, n19, ↓reduceIte, t1]
    rw [if_pos (nI_lt (by omega) (by omega)), c_name3 (by omega)]
    simp only [mm_C, mm_R, mm_L, mm_I, mm_sI, CL0, CL1, CL3, CL5, CL19, RR0_0, RR0_1, RR0_2, RR3_1, n1, n3, n5, n19, ↓reduceIte]
    rw [c_name3 (by omega), mm_C, if_pos v.1, c_cmpR v w (r3 h.1 (by omega)) (r3 h.1 hj) (l3 h.1 (by omega)) (l3 h.1 hj), nI_1, nI_1, ih _ _ (by omega), ih _ _ (by omega)]
    by_cases e : cmpR (nmO ns k) (nmO ns j) < 0
    · rw [if_pos e, cnt_t (P := ordP ns j) (decide_eq_true (Or.inl e)), Nat.add_assoc]
    · rw [if_neg e]
      by_cases e2 : cmpR (nmO ns k) (nmO ns j) = 0
      · rw [if_pos e2]
        by_cases e3 : k < j
        · rw [if_pos (nI_lt e3 (by omega)), cnt_t (P := ordP ns j) (decide_eq_true (Or.inr ⟨e2, e3⟩)), Nat.add_assoc]
        · rw [if_neg (nI_nlt (by omega) (by omega)), cnt_f (P := ordP ns j) (decide_eq_false (fun q => q.elim e (fun q => e3 q.2)))]
      · rw [if_neg e2, cnt_f (P := ordP ns j) (decide_eq_false (fun q => q.elim e (fun q => e2 q.1)))]
theorem k_orderN (h : ClR I J ns ct ps im tx tr) {x : Int32} (hx : x < 0 ∨ nI ns.length ≤ x) (Q : Int32 → Mem → Prop) : WI (d + 2) i_KN_order [.ref 0, .int x] (mm L I J) Q ↔ Q (-1) (mm L I J) := by
  rw [E_KN_order]
  simp only [mm_C, mm_R, mm_L, mm_I, mm_sI, CL0, CL1, CL3, CL5, CL19, RR0_0, RR0_1, RR0_2, RR3_1, n1, n3, n5, n19, ↓reduceIte]
  rw [c_hasN Cw_3 h.1 hx, if_pos rfl]
theorem k_orderY (h : ClR I J ns ct ps im tx tr) {j : Nat} (hj : j < ns.length) (Q : Int32 → Mem → Prop) : WI (d + 3) i_KN_order [.ref 0, .int (nI j)] (mm L I J) Q ↔ Q (nI (cnt (ordP ns j) ns.length 0)) (mm L I J) := by
  rw [E_KN_order]
  simp only [mm_C, mm_R, mm_L, mm_I, mm_sI, CL0, CL1, CL3, CL5, CL19, RR0_0, RR0_1, RR0_2, RR3_1, n1, n3, n5, n19, ↓reduceIte]
  rw [c_hasY Cw_3 h.1 hj, if_neg i10]
  have := k_order_loop (d := d) (L := L) h hj (QI Q) ns.length 0 0 (by omega)
  rw [nI_0, Nat.zero_add] at this
  exact this
def mixP (ns : List (List Nat)) (j D : Nat) : Nat → Bool := fun e => decide ((nmO ns j).length = (nmO ns e).length ∧ difs (nmO ns j) (nmO ns e) ≤ D)
theorem difs_le (l m : List Nat) : difs l m ≤ l.length := cnt_le _ _ _
theorem k_mixed_loop (h : ClR I J ns ct ps im tx tr) {j D : Nat} (hj : j < ns.length) (hD : D ≤ 12) (Q : Option Value → Mem → Prop) : ∀ n k s, k + n = ns.length →
    (Wn (d + 2) i_KN_mixed 38 [(0, .ref 0), (1, .int (nI j)), (2, .int (nI D)), (3, .ref (7 + 2 * j)), (4, .int s), (5, .int (nI k))] [] (mm L I J) Q ↔ Q (some (.int (bts (mixP ns j D) n k s))) (mm L I J)) := by
  have h6 := h.1.2.1
  have t1 := h.1.1
  have w := w3 (show j < 6 by omega)
  have lj := l3 h.1 hj
  intro n
  induction n with
  | zero =>
    intro k s hk
    rw [H_KN_mixed_38]
    simp only [mm_C, mm_R, mm_L, mm_I, mm_sI, CL0, CL1, CL3, CL5, CL19, RR0_0, RR0_1, RR0_2, RR3_1, n1, n3, n5, n19, ↓reduceIte, t1]
    rw [if_neg (nI_nlt (by omega) (by omega))]
    rfl
  | succ n ih =>
    intro k s hk
    have v := w3 (show k < 6 by omega)
    have lk := l3 h.1 (show k < ns.length by omega)
    have dl := difs_le (nmO ns j) (nmO ns k)
    rw [H_KN_mixed_38]
    simp only [mm_C, mm_R, mm_L, mm_I, mm_sI, CL0, CL1, CL3, CL5, CL19, RR0_0, RR0_1, RR0_2, RR3_1, n1, n3, n5, n19, ↓reduceIte, t1]
    rw [if_pos (nI_lt (by omega) (by omega)), c_name3 (by omega), mm_C, if_pos w.1, if_pos v.1, mm_I, (r3 h.1 hj).1, (r3 h.1 (show k < ns.length by omega)).1, if_pos w.1, nI_1, ih _ _ (by omega)]
    by_cases e : (nmO ns j).length = (nmO ns k).length
    · rw [if_pos (by rw [e]), c_diff w v (r3 h.1 hj) (r3 h.1 (by omega)) lj lk e, ih _ _ (by omega), ih _ _ (by omega)]
      by_cases e2 : difs (nmO ns j) (nmO ns k) ≤ D
      · rw [if_neg (nI_nlt (by omega) (by omega)), bts_t (P := mixP ns j D) (decide_eq_true ⟨e, e2⟩)]
      · rw [if_pos (nI_lt (by omega) (by omega)), bts_f (P := mixP ns j D) (decide_eq_false (fun q => e2 q.2))]
    · rw [if_neg (fun q => e ((nI_eq (by omega) (by omega)).mp q)), bts_f (P := mixP ns j D) (decide_eq_false (fun q => e q.1))]
theorem k_mixedN (h : ClR I J ns ct ps im tx tr) {x y : Int32} (hx : x < 0 ∨ nI ns.length ≤ x) (Q : Int32 → Mem → Prop) : WI (d + 2) i_KN_mixed [.ref 0, .int x, .int y] (mm L I J) Q ↔ Q (-1) (mm L I J) := by
  rw [E_KN_mixed]
  simp only [mm_C, mm_R, mm_L, mm_I, mm_sI, CL0, CL1, CL3, CL5, CL19, RR0_0, RR0_1, RR0_2, RR3_1, n1, n3, n5, n19, ↓reduceIte]
  rw [c_hasN Cw_3 h.1 hx, if_pos rfl]
theorem nw_12 {a b y : Int32} (hy : y < a ∨ b < y) : decide (a ≤ y ∧ y ≤ b) = false := decide_eq_false (fun q => hy.elim (fun h => absurd h (Int32.not_lt.mpr q.1)) (fun h => absurd h (Int32.not_lt.mpr q.2)))
theorem k_mixedN2 (h : ClR I J ns ct ps im tx tr) {j : Nat} (hj : j < ns.length) {y : Int32} (hy : y < 0 ∨ 12 < y) (Q : Int32 → Mem → Prop) : WI (d + 2) i_KN_mixed [.ref 0, .int (nI j), .int y] (mm L I J) Q ↔ Q (-1) (mm L I J) := by
  rw [E_KN_mixed]
  simp only [mm_C, mm_R, mm_L, mm_I, mm_sI, CL0, CL1, CL3, CL5, CL19, RR0_0, RR0_1, RR0_2, RR3_1, n1, n3, n5, n19, ↓reduceIte]
  rw [c_hasY Cw_3 h.1 hj, if_neg i10, c_within, nw_12 hy, if_pos (by rfl)]
theorem k_mixedY (h : ClR I J ns ct ps im tx tr) {j D : Nat} (hj : j < ns.length) (hD : D ≤ 12) (Q : Int32 → Mem → Prop) : WI (d + 2) i_KN_mixed [.ref 0, .int (nI j), .int (nI D)] (mm L I J) Q ↔ Q (bts (mixP ns j D) ns.length 0 0) (mm L I J) := by
  have h6 := h.1.2.1
  have h1 : nI D ≤ nI 12 := nI_le (by omega) (by omega)
  have h1 : nI D ≤ 12 := h1
  rw [E_KN_mixed]
  simp only [mm_C, mm_R, mm_L, mm_I, mm_sI, CL0, CL1, CL3, CL5, CL19, RR0_0, RR0_1, RR0_2, RR3_1, n1, n3, n5, n19, ↓reduceIte]
  rw [c_hasY Cw_3 h.1 hj, if_neg i10, c_within, decide_eq_true ⟨nI_pos' (by omega), h1⟩, if_neg (by decide)]
  simp only [mm_C, mm_R, mm_L, mm_I, mm_sI, CL0, CL1, CL3, CL5, CL19, RR0_0, RR0_1, RR0_2, RR3_1, n1, n3, n5, n19, ↓reduceIte]
  rw [c_name3 (by omega)]
  exact k_mixed_loop h hj hD (QI Q) ns.length 0 0 (by omega)
end KN3
