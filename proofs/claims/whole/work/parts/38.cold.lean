section Cold
variable {d L : Nat} {I : Nat → Nat → Int32} {J : Nat → Nat → Int64} {ns : List (List Nat)} {ct : List Nat} {ps : List Cp} {im : Nat → Option Cp} {tx : List Nat} {tr : Int64}
/-- by how many of ten x is taken for y -/
def tkf (x y p : Nat) : Nat := if x = y then 10 - p else if y = (x + 1) % 6 then p else 0
theorem c_tkf {x y p : Nat} (hx : x < 6) (hy : y < 6) (hp : p ≤ 10) (M : Mem) (Q : Int32 → Mem → Prop) : WI d i_KN_takenFor [.int (nI x), .int (nI y), .int (nI p)] M Q ↔ Q (nI (tkf x y p)) M := by
  have e10 : (10 : Int32) = nI 10 := by decide
  have e6 : (6 : Int32) = nI 6 := by decide
  have m := Nat.mod_lt (x + 1) (show 0 < 6 by omega)
  rw [E_KN_takenFor, nI_1, e6, pk_rem (by omega) (by omega) (by omega), e10, pk_sub hp]
  unfold tkf
  by_cases h1 : x = y
  · rw [if_pos (by rw [h1]), if_pos h1]
  · rw [if_neg (fun q => h1 ((nI_eq (by omega) (by omega)).mp q)), if_neg h1]
    by_cases h2 : y = (x + 1) % 6
    · rw [if_pos (by rw [← h2]), if_pos h2]
    · rw [if_neg (fun q => h2 ((nI_eq (by omega) (by omega)).mp q)), if_neg h2, nI_0]
theorem tkf_le {x y p : Nat} (hp : p ≤ 10) : tkf x y p ≤ 10 := by
  unfold tkf
  split
  · omega
  · split <;> omega
def upr (l m : List Nat) (p : Nat) : Nat → Nat → Nat → Nat
  | 0, _, s => s
  | n + 1, k, s => upr l m p n (k + 1) (s * tkf (g0 l k) (g0 m k) p)
theorem upr_le (l m : List Nat) {p : Nat} (hp : p ≤ 10) : ∀ n k s, upr l m p n k s ≤ s * 10 ^ n := by
  intro n
  induction n with
  | zero => intro k s; rw [Nat.pow_zero, Nat.mul_one]; exact Nat.le_refl _
  | succ n ih =>
    intro k s
    unfold upr
    have h1 := ih (k + 1) (s * tkf (g0 l k) (g0 m k) p)
    have h2 : s * tkf (g0 l k) (g0 m k) p * 10 ^ n ≤ s * 10 * 10 ^ n := Nat.mul_le_mul_right _ (Nat.mul_le_mul_left _ (tkf_le hp))
    rw [Nat.pow_succ, Nat.mul_comm (10 ^ n) 10, ← Nat.mul_assoc]
    omega
def coldA (l m : List Nat) (p : Nat) (w : Int32) : Int64 := if l.length = m.length then lea (upr l m p l.length 0 1) (10 ^ l.length) w else lea 0 1 w
theorem p10 {n : Nat} (h : n ≤ 12) : 10 ^ n ≤ 10 ^ 12 := Nat.pow_le_pow_right (by omega) h
theorem k_cold_loop (h : Cl I 3 ns ct) {a b p : Nat} (ha : a < ns.length) (hb : b < ns.length) (hp : p ≤ 10) (hl : (nmO ns a).length = (nmO ns b).length) (w : Int32) (Q : Option Value → Mem → Prop) : ∀ n k s, k + n = (nmO ns a).length → s ≤ 10 ^ k →
    (Wn (d + 2) i_KN_cold 93 [(0, .ref 0), (1, .int (nI a)), (2, .int (nI b)), (3, .int (nI p)), (4, .int w), (5, .ref (7 + 2 * a)), (6, .ref (7 + 2 * b)), (7, .long (lN s)), (9, .int (nI k))] [] (mm L I J) Q ↔ Q (some (.long (lea (upr (nmO ns a) (nmO ns b) p n k s) (10 ^ (nmO ns a).length) w))) (mm L I J)) := by
  have h6 := h.2.1
  have wa := w3 (show a < 6 by omega)
  have wb := w3 (show b < 6 by omega)
  have la := l3 h ha
  have lb := l3 h hb
  have ra := r3 h ha
  have rb := r3 h hb
  have e10 : (10 : Int32) = nI 10 := by decide
  intro n
  induction n with
  | zero =>
    intro k s hk hs
    have q1 := p10 la
    have q2 : 10 ^ k ≤ 10 ^ 12 := p10 (by omega)
    have q3 : 0 < 10 ^ (nmO ns a).length := Nat.pow_pos (by omega)
    rw [H_KN_cold_93, mm_C, if_pos wa.1, mm_I, ra.1, if_neg (nI_nlt (by omega) (by omega)), if_pos wa.1, e10, c_pow (by omega) (by omega), c_lea (by omega) (by omega) q3]
    rfl
  | succ n ih =>
    intro k s hk hs
    have x1 := Rl_6 ra (show k < (nmO ns a).length by omega)
    have x2 := Rl_6 rb (show k < (nmO ns b).length by omega)
    have x3 := tkf_le (x := (nmO ns a).getD k 0) (y := (nmO ns b).getD k 0) hp
    rw [H_KN_cold_93, mm_C, if_pos wa.1, mm_I, ra.1, if_pos (nI_lt (by omega) (by omega)), if_pos wa.1, c_at wa ra la (by omega), mm_C, if_pos wb.1, c_at wb rb lb (by omega), gt_lt (by omega), gt_lt (by omega), c_tkf x1 x2 hp, nI_l (by omega), lN_mul, nI_1, ih (k + 1) _ (by omega) ?_]
    · rfl
    · rw [Nat.pow_succ]
      exact Nat.mul_le_mul hs x3
theorem k_coldN1 (h : ClR I J ns ct ps im tx tr) {x y z w : Int32} (hx : x < 0 ∨ nI ns.length ≤ x) (Q : Int64 → Mem → Prop) : WL (d + 2) i_KN_cold [.ref 0, .int x, .int y, .int z, .int w] (mm L I J) Q ↔ Q (-1) (mm L I J) := by
  rw [E_KN_cold]
  simp only [mm_C, mm_R, mm_L, mm_I, mm_sI, CL0, CL1, CL3, CL5, CL19, RR0_0, RR0_1, RR0_2, RR3_1, n1, n3, n5, n19, ↓reduceIte]
  rw [c_hasN Cw_3 h.1 hx, if_pos rfl]
theorem k_coldN2 (h : ClR I J ns ct ps im tx tr) {a : Nat} (ha : a < ns.length) {y z w : Int32} (hy : y < 0 ∨ nI ns.length ≤ y) (Q : Int64 → Mem → Prop) : WL (d + 2) i_KN_cold [.ref 0, .int (nI a), .int y, .int z, .int w] (mm L I J) Q ↔ Q (-1) (mm L I J) := by
  rw [E_KN_cold]
  simp only [mm_C, mm_R, mm_L, mm_I, mm_sI, CL0, CL1, CL3, CL5, CL19, RR0_0, RR0_1, RR0_2, RR3_1, n1, n3, n5, n19, ↓reduceIte]
  rw [c_hasY Cw_3 h.1 ha, if_neg i10]
  simp only [mm_C, mm_R, mm_L, mm_I, mm_sI, CL0, CL1, CL3, CL5, CL19, RR0_0, RR0_1, RR0_2, RR3_1, n1, n3, n5, n19, ↓reduceIte]
  rw [c_hasN Cw_3 h.1 hy, if_pos rfl]
theorem k_coldN3 (h : ClR I J ns ct ps im tx tr) {a b : Nat} (ha : a < ns.length) (hb : b < ns.length) {z w : Int32} (hz : z < 0 ∨ 10 < z) (Q : Int64 → Mem → Prop) : WL (d + 2) i_KN_cold [.ref 0, .int (nI a), .int (nI b), .int z, .int w] (mm L I J) Q ↔ Q (-1) (mm L I J) := by
  rw [E_KN_cold]
  simp only [mm_C, mm_R, mm_L, mm_I, mm_sI, CL0, CL1, CL3, CL5, CL19, RR0_0, RR0_1, RR0_2, RR3_1, n1, n3, n5, n19, ↓reduceIte]
  rw [c_hasY Cw_3 h.1 ha, if_neg i10]
  simp only [mm_C, mm_R, mm_L, mm_I, mm_sI, CL0, CL1, CL3, CL5, CL19, RR0_0, RR0_1, RR0_2, RR3_1, n1, n3, n5, n19, ↓reduceIte]
  rw [c_hasY Cw_3 h.1 hb, if_neg i10, c_within, nw_12 hz, if_pos (by rfl)]
theorem le10 {p : Nat} (hp : p ≤ 10) : decide ((0 : Int32) ≤ nI p ∧ nI p ≤ 10) = true := by
  have h1 : nI p ≤ nI 10 := nI_le (by omega) (by omega)
  exact decide_eq_true ⟨nI_pos' (by omega), h1⟩
theorem k_coldN4 (h : ClR I J ns ct ps im tx tr) {a b p : Nat} (ha : a < ns.length) (hb : b < ns.length) (hp : p ≤ 10) {w : Int32} (hw : w < 0 ∨ 1 < w) (Q : Int64 → Mem → Prop) : WL (d + 2) i_KN_cold [.ref 0, .int (nI a), .int (nI b), .int (nI p), .int w] (mm L I J) Q ↔ Q (-1) (mm L I J) := by
  rw [E_KN_cold]
  simp only [mm_C, mm_R, mm_L, mm_I, mm_sI, CL0, CL1, CL3, CL5, CL19, RR0_0, RR0_1, RR0_2, RR3_1, n1, n3, n5, n19, ↓reduceIte]
  rw [c_hasY Cw_3 h.1 ha, if_neg i10]
  simp only [mm_C, mm_R, mm_L, mm_I, mm_sI, CL0, CL1, CL3, CL5, CL19, RR0_0, RR0_1, RR0_2, RR3_1, n1, n3, n5, n19, ↓reduceIte]
  rw [c_hasY Cw_3 h.1 hb, if_neg i10, c_within, le10 hp, if_neg (by decide), c_within, nw_12 hw, if_pos (by rfl)]
theorem k_coldY (h : ClR I J ns ct ps im tx tr) {a b p m : Nat} (ha : a < ns.length) (hb : b < ns.length) (hp : p ≤ 10) (hm : m < 2) (Q : Int64 → Mem → Prop) : WL (d + 2) i_KN_cold [.ref 0, .int (nI a), .int (nI b), .int (nI p), .int (nI m)] (mm L I J) Q ↔ Q (coldA (nmO ns a) (nmO ns b) p (nI m)) (mm L I J) := by
  have h6 := h.1.2.1
  have wa := w3 (show a < 6 by omega)
  have wb := w3 (show b < 6 by omega)
  have la := l3 h.1 ha
  have lb := l3 h.1 hb
  rw [E_KN_cold]
  simp only [mm_C, mm_R, mm_L, mm_I, mm_sI, CL0, CL1, CL3, CL5, CL19, RR0_0, RR0_1, RR0_2, RR3_1, n1, n3, n5, n19, ↓reduceIte]
  rw [c_hasY Cw_3 h.1 ha, if_neg i10]
  simp only [mm_C, mm_R, mm_L, mm_I, mm_sI, CL0, CL1, CL3, CL5, CL19, RR0_0, RR0_1, RR0_2, RR3_1, n1, n3, n5, n19, ↓reduceIte]
  rw [c_hasY Cw_3 h.1 hb, if_neg i10, c_within, le10 hp, if_neg (by decide), c_within, w01 hm, if_neg (by decide)]
  simp only [mm_C, mm_R, mm_L, mm_I, mm_sI, CL0, CL1, CL3, CL5, CL19, RR0_0, RR0_1, RR0_2, RR3_1, n1, n3, n5, n19, ↓reduceIte]
  rw [c_name3 (by omega)]
  simp only [mm_C, mm_R, mm_L, mm_I, mm_sI, CL0, CL1, CL3, CL5, CL19, RR0_0, RR0_1, RR0_2, RR3_1, n1, n3, n5, n19, ↓reduceIte]
  rw [c_name3 (by omega), mm_C, if_pos wa.1, if_pos wb.1, mm_I, (r3 h.1 ha).1, (r3 h.1 hb).1]
  unfold coldA
  by_cases e : (nmO ns a).length = (nmO ns b).length
  · rw [if_pos (by rw [e]), if_pos e]
    have := k_cold_loop (d := d) (L := L) (J := J) h.1 ha hb hp e (nI m) (QL Q) (nmO ns a).length 0 1 (by omega) (Nat.le_refl _)
    rw [nI_0] at this
    exact this
  · rw [if_neg (fun q => e ((nI_eq (by omega) (by omega)).mp q)), if_neg e]
    exact c_lea (a := 0) (b := 1) (by omega) (by omega) (by omega) (nI m) Q
end Cold
