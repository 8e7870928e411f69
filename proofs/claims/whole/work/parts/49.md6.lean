section MD6
variable {d L : Nat} {I : Nat → Nat → Int32} {J : Nat → Nat → Int64} {ns : List (List Nat)} {ct : List Nat} {ps : List Cp} {im : Nat → Option Cp} {tx : List Nat} {tr : Int64}
theorem e13 (j : Nat) : (13 : Int32) + nI j = nI (13 + j) := nI_add 13 j
theorem e19 (j : Nat) : (19 : Int32) + (12 : Int32) * nI j = nI (19 + 12 * j) := by
  have : (12 : Int32) * nI j = nI (12 * j) := pk_mul 12 j
  rw [this]
  exact nI_add 19 _
theorem ok13 {j : Nat} (hj : j < 6) : rdI 10 ∧ inb (nI (13 + j)) 91 := ⟨by decide, inb_nI (by omega) (by omega)⟩
theorem mlen (h : Ml I 249 0 ns ct) {j : Nat} (hj : j < ns.length) : I 249 (nI (13 + j)).toNatClampNeg = nI (nmO ns j).length := by
  have h6 := h.2.2.2.1
  have b1 := (h.2.2.2.2 j hj).1
  rw [Nat.zero_add] at b1
  rw [ix_nI (by omega)]
  exact b1
theorem mle (h : Ml I 249 0 ns ct) {j : Nat} (hj : j < ns.length) : (nmO ns j).length ≤ 12 := (h.2.2.2.2 j hj).2.1
theorem m_turnAt (h : Ml I 249 0 ns ct) {j k : Nat} (hj : j < ns.length) (hk : k < (nmO ns j).length) (Q : Int32 → Mem → Prop) : WI d i_MD_turnAt [.ref 248, .int (nI j), .int (nI k)] (mm L I J) Q ↔ Q (nI ((nmO ns j).getD k 0)) (mm L I J) := by
  have h6 := h.2.2.2.1
  have l := mle h hj
  have b := (h.2.2.2.2 j hj).2.2.1 k hk
  rw [Nat.zero_add] at b
  rw [E_MD_turnAt, e19, nI_add]
  simp only [mm_C, mm_R, mm_L, mm_I, CL248, CL249, RR248_1, n249, LN249, ↓reduceIte]
  rw [if_pos ⟨by decide, inb_nI (by omega) (by omega)⟩, ix_nI (by omega), b]
theorem m_turns_loop (hm : I 248 0 = nI ns.length) (h : Ml I 249 0 ns ct) (Q : Option Value → Mem → Prop) : ∀ n k s, k + n = ns.length →
    (Wn d i_MD_turnsOfAll 4 [(0, .ref 248), (1, .int (nI s)), (2, .int (nI k))] [] (mm L I J) Q ↔ Q (some (.int (nI (s + sumL ns n k)))) (mm L I J)) := by
  have h6 := h.2.2.2.1
  intro n
  induction n with
  | zero =>
    intro k s hk
    rw [H_MD_turnsOfAll_4, mm_C, if_pos CL248, mm_I, hm, if_neg (nI_nlt (by omega) (by omega))]
    rfl
  | succ n ih =>
    intro k s hk
    rw [H_MD_turnsOfAll_4, e13]
    simp only [mm_C, mm_R, mm_L, mm_I, CL248, CL249, RR248_1, n249, LN249, ↓reduceIte, hm]
    rw [if_pos (nI_lt (by omega) (by omega)), if_pos (ok13 (by omega)), mlen h (by omega), nI_add, nI_1, ih (k + 1) _ (by omega), Nat.add_assoc]
    rfl
theorem m_turns (hm : I 248 0 = nI ns.length) (h : Ml I 249 0 ns ct) (Q : Int32 → Mem → Prop) : WI d i_MD_turnsOfAll [.ref 248] (mm L I J) Q ↔ Q (nI (sumL ns ns.length 0)) (mm L I J) := by
  rw [E_MD_turnsOfAll]
  have := m_turns_loop (d := d) (L := L) (J := J) hm h (QI Q) ns.length 0 0 (by omega)
  rw [Nat.zero_add, nI_0] at this
  exact this
end MD6
