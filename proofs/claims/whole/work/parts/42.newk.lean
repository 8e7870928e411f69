section NewK
variable {d L : Nat} {I : Nat → Nat → Int32} {J : Nat → Nat → Int64} {ns : List (List Nat)} {ct : List Nat} {ps : List Cp} {im : Nat → Option Cp} {tx : List Nat} {tr : Int64}
theorem le14 {n : Nat} (h1 : 1 ≤ n) (h4 : n ≤ 4) : decide ((1 : Int32) ≤ nI n ∧ nI n ≤ 4) = true := by
  have e1 : nI 1 ≤ nI n := nI_le h1 (by omega)
  have e4 : nI n ≤ nI 4 := nI_le h4 (by omega)
  exact decide_eq_true ⟨e1, e4⟩
theorem k_newN1 {x y z : Int32} (hx : x < 1 ∨ 4 < x) (M : Mem) (Q : Int32 → Mem → Prop) : WI (d + 1) i_KN_newName [.ref 0, .int x, .int y, .int z] M Q ↔ Q (-1) M := by
  rw [E_KN_newName, c_within, nw_12 hx, if_pos (by rfl)]
theorem k_newN2 {n : Nat} (h1 : 1 ≤ n) (h4 : n ≤ 4) {y z : Int32} (hy : y < 1 ∨ 4 < y) (M : Mem) (Q : Int32 → Mem → Prop) : WI (d + 1) i_KN_newName [.ref 0, .int (nI n), .int y, .int z] M Q ↔ Q (-1) M := by
  rw [E_KN_newName, c_within, le14 h1 h4, if_neg (by decide), c_within, nw_12 hy, if_pos (by rfl)]
theorem k_newN3 {n D : Nat} (h1 : 1 ≤ n) (h4 : n ≤ 4) (d1 : 1 ≤ D) (d4 : D ≤ 4) {z : Int32} (hz : z < -1 ∨ nI n - 1 < z) (M : Mem) (Q : Int32 → Mem → Prop) : WI (d + 1) i_KN_newName [.ref 0, .int (nI n), .int (nI D), .int z] M Q ↔ Q (-1) M := by
  rw [E_KN_newName, c_within, le14 h1 h4, if_neg (by decide), c_within, le14 d1 d4, if_neg (by decide), c_within, nw_12 hz, if_pos (by rfl)]
/-- the answer about new names: how many, or a turn of the first -/
def newA (ns : List (List Nat)) (n D : Nat) (z : Int32) : Int32 := if z = -1 then nI (cnt (newP ns n D) (6 ^ n) 0) else if cnt (newP ns n D) (6 ^ n) 0 = 0 then -9 else nI ((spl (fs (newP ns n D) (6 ^ n) 0) n).getD z.toNatClampNeg 0)
theorem k_newY (h : ClR I J ns ct ps im tx tr) {n D : Nat} (h1 : 1 ≤ n) (h4 : n ≤ 4) (d1 : 1 ≤ D) (d4 : D ≤ 4) {z : Int32} (hz : z = -1 ∨ ∃ k, k < n ∧ z = nI k) (Q : Int32 → Mem → Prop) (hQ : ∀ I', ClR I' J ns ct ps im tx tr → FrR 0 248 I I' → Q (newA ns n D z) (mm L I' J)) : WI (d + 4) i_KN_newName [.ref 0, .int (nI n), .int (nI D), .int z] (mm L I J) Q := by
  have e0 : nI n - 1 = nI (n - 1) := nI_m1 (by omega)
  have hw : decide ((-1 : Int32) ≤ z ∧ z ≤ nI n - 1) = true := by
    rw [e0]
    rcases hz with hz | ⟨k, k1, k2⟩
    · rw [hz]
      refine decide_eq_true ⟨by decide, ?_⟩
      have a1 : (0 : Int32) ≤ nI (n - 1) := nI_pos' (by omega)
      exact Int32.le_trans (show (-1 : Int32) ≤ 0 by decide) a1
    · rw [k2]
      have a1 : (0 : Int32) ≤ nI k := nI_pos' (by omega)
      exact decide_eq_true ⟨Int32.le_trans (show (-1 : Int32) ≤ 0 by decide) a1, nI_le (by omega) (by omega)⟩
  have p2 : 6 ^ n ≤ 6 ^ 4 := Nat.pow_le_pow_right (by omega) (by omega)
  have cl := cnt_le (newP ns n D) (6 ^ n) 0
  rw [E_KN_newName, c_within, le14 h1 h4, if_neg (by decide), c_within, le14 d1 d4, if_neg (by decide), c_within, hw, if_neg (by decide)]
  simp only [mm_C, mm_R, mm_L, mm_I, mm_sI, CL0, CL1, CL3, CL5, CL19, RR0_0, RR0_1, RR0_2, RR3_1, n1, n3, n5, n19, ↓reduceIte, RR0_6, n191, CL191]
  refine c_find h4 d4 h.1 _ (fun I' g1 g2 g3 => ?_)
  have h1 := ClR_sc h g3 (by omega) (by omega)
  have F := FrR_w (lo2 := 0) (hi2 := 248) g3 (by omega) (by omega)
  have hq := hQ I' h1 F
  simp only [mm_C, mm_R, mm_L, mm_I, mm_sI, CL0, CL1, CL3, CL5, CL19, RR0_0, RR0_1, RR0_2, RR3_1, n1, n3, n5, n19, ↓reduceIte, RR0_6, n191, CL191, RR191_0, n192, CL192, g1]
  unfold newA at hq
  by_cases z1 : z = -1
  · rw [if_pos z1] at hq
    rw [if_pos z1]
    exact hq
  · rw [if_neg z1] at hq
    rw [if_neg z1]
    by_cases c0 : cnt (newP ns n D) (6 ^ n) 0 = 0
    · rw [if_pos c0] at hq
      rw [if_pos (by rw [c0]; rfl)]
      exact hq
    · rw [if_neg c0] at hq
      obtain ⟨k, k1, k2⟩ := hz.resolve_left z1
      have sl := spl_len (fs (newP ns n D) (6 ^ n) 0) n
      rw [k2, ix_nI (by omega)] at hq
      rw [if_neg (nI_ne0 (by omega) (by omega)), k2, c_at w192 (g2 (by omega)) (by omega) (by omega), gt_lt (by omega)]
      exact hq
end NewK
