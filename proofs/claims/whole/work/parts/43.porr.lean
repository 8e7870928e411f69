/-! ===== porridge ===== -/
theorem abs_F : ∀ n u k : Fin 7, u.1 ≤ n.1 → ((if 0 ≤ (nI u.1 - (nI n.1 - nI u.1)) then (nI u.1 - (nI n.1 - nI u.1)) else 0 - (nI u.1 - (nI n.1 - nI u.1))) = nI k.1 ↔ (2 * u.1 = n.1 + k.1 ∨ n.1 = 2 * u.1 + k.1)) := by decide +kernel
theorem popn_F : ∀ n : Fin 7, ∀ r : Fin 64, r.1 < 2 ^ n.1 → pop r.1 ≤ n.1 := by decide +kernel
theorem shl_F : ∀ n : Fin 7, (1 : Int32) <<< (nI n.1 &&& 31) = nI (2 ^ n.1) ∧ 2 ^ n.1 ≤ 64 := by decide +kernel
def porU (p n k : Nat) : Nat → Nat → Nat → Nat
  | 0, _, s => s
  | m + 1, r, s => porU p n k m (r + 1) (if 2 * pop r = n + k ∨ n = 2 * pop r + k then s + p ^ pop r * (10 - p) ^ (n - pop r) else s)
section Porr
variable {d : Nat} {M : Mem}
theorem pq_le {p a b : Nat} (hp : p ≤ 10) (hab : a + b ≤ 6) : p ^ a * (10 - p) ^ b ≤ 10 ^ 6 := by
  have h1 : p ^ a ≤ 10 ^ a := Nat.pow_le_pow_left hp a
  have h2 : (10 - p) ^ b ≤ 10 ^ b := Nat.pow_le_pow_left (by omega) b
  have h3 := Nat.mul_le_mul h1 h2
  rw [← Nat.pow_add] at h3
  exact Nat.le_trans h3 (Nat.pow_le_pow_right (by omega) hab)
theorem k_por_loop {p n k : Nat} (hp : p ≤ 10) (hn : n ≤ 6) (hk : k ≤ 6) (w : Int32) (Q : Option Value → Mem → Prop) : ∀ m r s, r + m = 2 ^ n → s ≤ r * 10 ^ 6 →
    (Wn (d + 2) i_KN_porridge 48 [(0, .ref 0), (1, .int (nI p)), (2, .int (nI n)), (3, .int (nI k)), (4, .int w), (5, .long (lN s)), (7, .int (nI r))] [] M Q ↔ Q (some (.int (Int64.toInt32 (lea (porU p n k m r s) (10 ^ n) w)))) M) := by
  obtain ⟨s1, s2⟩ := shl_F ⟨n, by omega⟩
  have s1 : (1 : Int32) <<< (nI n &&& 31) = nI (2 ^ n) := s1
  have s2 : 2 ^ n ≤ 64 := s2
  have e10 : (10 : Int32) = nI 10 := by decide
  intro m
  induction m with
  | zero =>
    intro r s hr hs
    have q1 : 10 ^ n ≤ 10 ^ 6 := Nat.pow_le_pow_right (by omega) hn
    have q3 : 0 < 10 ^ n := Nat.pow_pos (by omega)
    have q4 : r * 10 ^ 6 ≤ 64 * 10 ^ 6 := Nat.mul_le_mul_right _ (by omega)
    rw [H_KN_porridge_48, s1, if_neg (nI_nlt (by omega) (by omega)), e10, c_pow (by omega) (by omega), c_lea (by omega) (by omega) q3]
    rfl
  | succ m ih =>
    intro r s hr hs
    have pn : pop r ≤ n := popn_F ⟨n, by omega⟩ ⟨r, by omega⟩ (show r < 2 ^ n by omega)
    have ab := abs_F ⟨n, by omega⟩ ⟨pop r, by omega⟩ ⟨k, by omega⟩ pn
    have ab : (if 0 ≤ (nI (pop r) - (nI n - nI (pop r))) then (nI (pop r) - (nI n - nI (pop r))) else 0 - (nI (pop r) - (nI n - nI (pop r)))) = nI k ↔ (2 * pop r = n + k ∨ n = 2 * pop r + k) := ab
    have pl := pq_le (a := pop r) (b := n - pop r) hp (by omega)
    have q5 : (r + 1) * 10 ^ 6 = r * 10 ^ 6 + 10 ^ 6 := Nat.succ_mul _ _
    rw [H_KN_porridge_48, s1, if_pos (nI_lt (by omega) (by omega)), c_bc, bcE_p (by omega), nI_1]
    unfold porU
    by_cases e : 2 * pop r = n + k ∨ n = 2 * pop r + k
    · rw [if_pos (ab.mpr e), if_pos e, c_pow (by omega) (by omega), e10, pk_sub hp, pk_sub pn, c_pow (by omega) (by omega), lN_mul, lN_add, ih (r + 1) _ (by omega) (by omega)]
    · rw [if_neg (fun q => e (ab.mp q)), if_neg e, ih (r + 1) s (by omega) (by rw [q5]; exact Nat.le_trans hs (Nat.le_add_right _ _))]
theorem le06 {n : Nat} (h : n ≤ 6) : decide ((0 : Int32) ≤ nI n ∧ nI n ≤ 6) = true := by
  have h1 : nI n ≤ nI 6 := nI_le (by omega) (by omega)
  exact decide_eq_true ⟨nI_pos' (by omega), h1⟩
theorem k_porN1 {x y z w : Int32} (hx : x < 0 ∨ 10 < x) (Q : Int32 → Mem → Prop) : WI (d + 1) i_KN_porridge [.ref 0, .int x, .int y, .int z, .int w] M Q ↔ Q (-1) M := by
  rw [E_KN_porridge, c_within, nw_12 hx, if_pos (by rfl)]
theorem k_porN2 {p : Nat} (hp : p ≤ 10) {y z w : Int32} (hy : y < 0 ∨ 6 < y) (Q : Int32 → Mem → Prop) : WI (d + 1) i_KN_porridge [.ref 0, .int (nI p), .int y, .int z, .int w] M Q ↔ Q (-1) M := by
  rw [E_KN_porridge, c_within, le10 hp, if_neg (by decide), c_within, nw_12 hy, if_pos (by rfl)]
theorem k_porN3 {p n : Nat} (hp : p ≤ 10) (hn : n ≤ 6) {z w : Int32} (hz : z < 0 ∨ 6 < z) (Q : Int32 → Mem → Prop) : WI (d + 1) i_KN_porridge [.ref 0, .int (nI p), .int (nI n), .int z, .int w] M Q ↔ Q (-1) M := by
  rw [E_KN_porridge, c_within, le10 hp, if_neg (by decide), c_within, le06 hn, if_neg (by decide), c_within, nw_12 hz, if_pos (by rfl)]
theorem k_porN4 {p n k : Nat} (hp : p ≤ 10) (hn : n ≤ 6) (hk : k ≤ 6) {w : Int32} (hw : w < 0 ∨ 1 < w) (Q : Int32 → Mem → Prop) : WI (d + 1) i_KN_porridge [.ref 0, .int (nI p), .int (nI n), .int (nI k), .int w] M Q ↔ Q (-1) M := by
  rw [E_KN_porridge, c_within, le10 hp, if_neg (by decide), c_within, le06 hn, if_neg (by decide), c_within, le06 hk, if_neg (by decide), c_within, nw_12 hw, if_pos (by rfl)]
theorem k_porY {p n k m : Nat} (hp : p ≤ 10) (hn : n ≤ 6) (hk : k ≤ 6) (hm : m < 2) (Q : Int32 → Mem → Prop) : WI (d + 2) i_KN_porridge [.ref 0, .int (nI p), .int (nI n), .int (nI k), .int (nI m)] M Q ↔ Q (Int64.toInt32 (lea (porU p n k (2 ^ n) 0 0) (10 ^ n) (nI m))) M := by
  rw [E_KN_porridge, c_within, le10 hp, if_neg (by decide), c_within, le06 hn, if_neg (by decide), c_within, le06 hk, if_neg (by decide), c_within, w01 hm, if_neg (by decide)]
  have := k_por_loop (d := d) (M := M) hp hn hk (nI m) (QI Q) (2 ^ n) 0 0 (by omega) (by omega)
  rw [nI_0, lN_0] at this
  exact this
end Porr
