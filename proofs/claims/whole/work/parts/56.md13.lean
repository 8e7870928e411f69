section MD13
variable {d L : Nat} {I : Nat → Nat → Int32} {J : Nat → Nat → Int64} {ns : List (List Nat)} {ct : List Nat} {ps : List Cp} {im : Nat → Option Cp} {tx : List Nat} {tr : Int64}
theorem m_nameN (h : MdR I J ns ct ps im tx tr) {x : Int32} (hx : x < 0 ∨ nI ns.length ≤ x) (y : Int32) (Q : Int32 → Mem → Prop) : WI (d + 2) i_MD_name [.ref 248, .int x, .int y] (mm L I J) Q ↔ Q (-1) (mm L I J) := by
  rw [E_MD_name, mm_C, if_pos CL248, m_herdN h hx, if_pos rfl]
/-- the three ways of lot -/
theorem lot_3 (l : List Nat) (hl : l.length ≤ 12) (y : Int32) : (y = -1 ∧ lot l y = nI l.length ∧ decide (-1 ≤ y ∧ y ≤ nI l.length - 1) = true) ∨ (∃ k, k < l.length ∧ y = nI k ∧ lot l y = nI (l.getD k 0) ∧ decide (-1 ≤ y ∧ y ≤ nI l.length - 1) = true) ∨ (lot l y = -1 ∧ decide (-1 ≤ y ∧ y ≤ nI l.length - 1) = false) := by
  by_cases e : y = -1
  · refine Or.inl ⟨e, by unfold lot; rw [if_pos e], ?_⟩
    rw [e]
    refine decide_eq_true ⟨by decide, ?_⟩
    by_cases h0 : l.length = 0
    · rw [h0]; decide
    · rw [nI_m1 (by omega)]
      have a1 : (0 : Int32) ≤ nI (l.length - 1) := nI_pos' (by omega)
      exact Int32.le_trans (show (-1 : Int32) ≤ 0 by decide) a1
  · rcases pk_ix y (show l.length < 2 ^ 31 by omega) with c | c | ⟨k, k1, k2⟩
    · have nl : ¬ (-1 : Int32) ≤ y := fun q => by
        rw [Int32.le_iff_toInt_le] at q
        rw [Int32.lt_iff_toInt_lt] at c
        have e1 : Int32.toInt (-1) = -1 := by decide
        have e2 : Int32.toInt 0 = 0 := by decide
        rw [e1] at q
        rw [e2] at c
        exact e (Int32.toInt_inj.mp (by rw [e1]; omega))
      refine Or.inr (Or.inr ⟨?_, decide_eq_false (fun q => nl q.1)⟩)
      unfold lot
      rw [if_neg e, if_neg (fun q => absurd c (Int32.not_lt.mpr q.1))]
    · have nu : ¬ y ≤ nI l.length - 1 := fun q => by
        by_cases h0 : l.length = 0
        · rw [h0] at q c
          have q2 : y ≤ -1 := q
          have c2 : 0 ≤ y := c
          exact absurd (Int32.le_trans c2 q2) (by decide)
        · rw [nI_m1 (by omega)] at q
          exact absurd (Int32.le_trans c q) (nI_ge (by omega) (by omega))
      refine Or.inr (Or.inr ⟨?_, decide_eq_false (fun q => nu q.2)⟩)
      unfold lot
      rw [if_neg e, if_neg (fun q => nu q.2)]
    · have a1 : (0 : Int32) ≤ nI k := nI_pos' (by omega)
      have a2 : nI k ≤ nI l.length - 1 := by rw [nI_m1 (by omega)]; exact nI_le (by omega) (by omega)
      refine Or.inr (Or.inl ⟨k, k1, k2, ?_, ?_⟩)
      · unfold lot
        rw [if_neg e, k2, if_pos ⟨a1, a2⟩, ix_nI (by omega)]
      · rw [k2]
        exact decide_eq_true ⟨Int32.le_trans (show (-1 : Int32) ≤ 0 by decide) a1, a2⟩
theorem m_nameY (h : MdR I J ns ct ps im tx tr) {j : Nat} (hj : j < ns.length) (y : Int32) (Q : Int32 → Mem → Prop) : WI (d + 2) i_MD_name [.ref 248, .int (nI j), .int y] (mm L I J) Q ↔ Q (lot (nmO ns j) y) (mm L I J) := by
  have h6 := h.2.1.2.2.2.1
  have lj := mle h.2.1 hj
  rw [E_MD_name, mm_C, if_pos CL248, m_herdY h hj, if_neg i10, e13, e19, qm1]
  simp only [mm_C, mm_R, mm_L, mm_I, CL248, CL249, RR248_1, n249, LN249, ↓reduceIte]
  rw [if_pos (ok13 (by omega)), mlen h.2.1 hj, m_in]
  rcases lot_3 (nmO ns j) lj y with ⟨a1, a2, a3⟩ | ⟨k, k1, k2, k3, k4⟩ | ⟨a2, a3⟩
  · rw [a3, a2, if_neg (by decide), if_pos (by rw [a1]; decide)]
    simp only [mm_C, mm_R, mm_L, mm_I, CL248, CL249, RR248_1, n249, LN249, ↓reduceIte]
    rw [if_pos (ok13 (by omega)), mlen h.2.1 hj]
  · have b := (h.2.1.2.2.2.2 j hj).2.2.1 k k1
    rw [Nat.zero_add] at b
    rw [k4, k3, if_neg (by decide), k2, if_neg (nI_nn (by omega)), nI_add]
    simp only [mm_C, mm_R, mm_L, mm_I, CL248, CL249, RR248_1, n249, LN249, ↓reduceIte]
    rw [if_pos ⟨by decide, inb_nI (by omega) (by omega)⟩, ix_nI (by omega), b]
  · rw [a3, a2, if_pos (by rfl)]
end MD13
