/-! ===== the model: small methods ===== -/
theorem t64_lt (x y : Int32) : Int32.toInt64 x < Int32.toInt64 y ↔ x < y := by
  rw [Int64.lt_iff_toInt_lt, Int32.toInt_toInt64, Int32.toInt_toInt64, Int32.lt_iff_toInt_lt]
section MD1
variable {d L : Nat} {M : Mem}
theorem m_in (x a b : Int32) (Q : Int32 → Mem → Prop) : WI d i_MD_in [.long (Int32.toInt64 x), .long (Int32.toInt64 a), .long (Int32.toInt64 b)] M Q ↔ Q (bI (decide (a ≤ x ∧ x ≤ b))) M := by
  rw [E_MD_in]
  by_cases h1 : x < a
  · rw [if_pos ((lg_cmp_lt _ _).mpr ((t64_lt _ _).mpr h1)), nw_12 (Or.inl h1)]
    rfl
  · rw [if_neg (fun q => h1 ((t64_lt _ _).mp ((lg_cmp_lt _ _).mp q)))]
    by_cases h2 : b < x
    · rw [if_pos ((lg_cmp_gt _ _).mpr ((t64_lt _ _).mpr h2)), nw_12 (Or.inr h2)]
      rfl
    · rw [if_neg (fun q => h2 ((t64_lt _ _).mp ((lg_cmp_gt _ _).mp q))), decide_eq_true ⟨Int32.not_lt.mp h1, Int32.not_lt.mp h2⟩]
      rfl
theorem bI_01 (b : Bool) : bI b = 0 ∨ bI b = 1 := by cases b <;> decide
theorem m_isTwo (x : Int32) (Q : Int32 → Mem → Prop) : WI (d + 1) i_MD_isTwo [.int x] M Q ↔ Q (bI (decide ((0 : Int32) ≤ x ∧ x ≤ 1))) M := by
  rw [E_MD_isTwo]
  have := m_in (d := d) (M := M) x 0 1 (fun x2 M1 => if x2 = 0 ∨ x2 = 1 then Q x2 M1 else False)
  rw [if_pos (bI_01 _)] at this
  exact this
theorem bits_F : ∀ m : Fin 64, m.1 ≠ 0 → nI m.1 ≠ 0 ∧ nI m.1 &&& (nI m.1 - 1) = nI (m.1 &&& (m.1 - 1)) ∧ (m.1 &&& (m.1 - 1)) < m.1 ∧ pop m.1 = pop (m.1 &&& (m.1 - 1)) + 1 := by decide +kernel
theorem m_bits_loop (v : Int32) (Q : Option Value → Mem → Prop) : ∀ n m s, m < n → m < 64 →
    (Wn d i_MD_bits 4 [(0, .int v), (1, .int (nI s)), (2, .int (nI m))] [] M Q ↔ Q (some (.int (nI (s + pop m)))) M) := by
  intro n
  induction n with
  | zero => intro m s h; exact absurd h (Nat.not_lt_zero m)
  | succ n ih =>
    intro m s h h64
    rw [H_MD_bits_4]
    by_cases m0 : m = 0
    · rw [m0, if_pos (by decide)]
      rfl
    · obtain ⟨b1, b2, b3, b4⟩ := bits_F ⟨m, h64⟩ m0
      have b1 : nI m ≠ 0 := b1
      have b2 : nI m &&& (nI m - 1) = nI (m &&& (m - 1)) := b2
      have b3 : (m &&& (m - 1)) < m := b3
      have b4 : pop m = pop (m &&& (m - 1)) + 1 := b4
      rw [if_neg b1, b2, nI_1, ih _ _ (by omega) (by omega), b4, Nat.add_assoc, Nat.add_comm 1]
theorem m_bits {m : Nat} (h : m < 64) (Q : Int32 → Mem → Prop) : WI d i_MD_bits [.int (nI m)] M Q ↔ Q (nI (pop m)) M := by
  rw [E_MD_bits]
  have := m_bits_loop (d := d) (M := M) (nI m) (QI Q) (m + 1) m 0 (by omega) h
  rw [nI_0, Nat.zero_add] at this
  exact this
end MD1
