section MD11
variable {d L : Nat} {I : Nat → Nat → Int32} {J : Nat → Nat → Int64} {ns : List (List Nat)} {ct : List Nat} {ps : List Cp} {im : Nat → Option Cp} {tx : List Nat} {tr : Int64}
theorem q0 : (0 : Int64) = Int32.toInt64 0 := by decide
theorem q1 : (1 : Int64) = Int32.toInt64 1 := by decide
theorem qm1 : (-1 : Int64) = Int32.toInt64 (-1) := by decide
theorem q10 : (10 : Int64) = Int32.toInt64 10 := by decide
theorem q12 : (12 : Int64) = Int32.toInt64 12 := by decide
theorem q99 : (99 : Int64) = Int32.toInt64 99 := by decide
theorem q255 : (255 : Int64) = Int32.toInt64 255 := by decide
theorem m_mixedN2 (h : MdR I J ns ct ps im tx tr) {j : Nat} (hj : j < ns.length) {y : Int32} (hy : y < 0 ∨ 12 < y) (Q : Int32 → Mem → Prop) : WI (d + 2) i_MD_mixed [.ref 248, .int (nI j), .int y] (mm L I J) Q ↔ Q (-1) (mm L I J) := by
  rw [E_MD_mixed, mm_C, if_pos CL248, m_herdY h hj, if_neg i10, q0, q12, m_in, nw_12 hy, if_pos (by rfl)]
theorem m_mixedY (h : MdR I J ns ct ps im tx tr) {j D : Nat} (hj : j < ns.length) (hD : D ≤ 12) (Q : Int32 → Mem → Prop) : WI (d + 3) i_MD_mixed [.ref 248, .int (nI j), .int (nI D)] (mm L I J) Q ↔ Q (bts (mixP ns j D) ns.length 0 0) (mm L I J) := by
  have h1 : nI D ≤ nI 12 := nI_le (by omega) (by omega)
  have h1 : nI D ≤ 12 := h1
  rw [E_MD_mixed, mm_C, if_pos CL248, m_herdY h hj, if_neg i10, q0, q12, m_in, decide_eq_true ⟨nI_pos' (by omega), h1⟩, if_neg (by decide), mm_C, if_pos CL248, m_near h.1 h.2.1 hj hD]
theorem m_shareN (h : MdR I J ns ct ps im tx tr) {x y : Int32} (hx : x < 0 ∨ nI ns.length ≤ x) (Q : Int32 → Mem → Prop) : WI (d + 2) i_MD_share [.ref 248, .int x, .int y] (mm L I J) Q ↔ Q (-1) (mm L I J) := by
  rw [E_MD_share, mm_C, if_pos CL248, m_herdN h hx, if_pos rfl]
theorem m_shareN2 (h : MdR I J ns ct ps im tx tr) {j : Nat} (hj : j < ns.length) {y : Int32} (hy : y < 1 ∨ 99 < y) (Q : Int32 → Mem → Prop) : WI (d + 2) i_MD_share [.ref 248, .int (nI j), .int y] (mm L I J) Q ↔ Q (-1) (mm L I J) := by
  rw [E_MD_share, mm_C, if_pos CL248, m_herdY h hj, if_neg i10, q1, q99, m_in, nw_12 hy, if_pos (by rfl)]
theorem m_shareY (h : MdR I J ns ct ps im tx tr) {j : Nat} (hj : j < ns.length) {y : Int32} (h1 : 1 ≤ y) (h2 : y ≤ 99) (Q : Int32 → Mem → Prop) : WI (d + 5) i_MD_share [.ref 248, .int (nI j), .int y] (mm L I J) Q ↔ Q (y / nI (cnt (unlP ns) ns.length 0) / nI (pop (likN ns j))) (mm L I J) := by
  have h6 := h.2.1.2.2.2.1
  obtain ⟨k1, k2, k3⟩ := lik_N h6 hj
  have u1 := unl_pos h6 (by omega)
  have u2 := cnt_le (unlP ns) ns.length 0
  obtain ⟨p1, p2⟩ := pop_F ⟨likN ns j, k2⟩
  have p1 : pop (likN ns j) ≤ 6 := p1
  have p3 : 0 < pop (likN ns j) := by
    rcases Nat.eq_zero_or_pos (pop (likN ns j)) with e | e
    · have := p2 e
      have : likN ns j = 0 := this
      omega
    · exact e
  rw [E_MD_share, mm_C, if_pos CL248, m_herdY h hj, if_neg i10, q1, q99, m_in, within_Y h1 h2, if_neg (by decide), mm_C, if_pos CL248, m_names h.1 h.2.1, if_neg (nI_ne0 u1 (by omega)), mm_C, if_pos CL248, m_alikeOf h.1 h.2.1 hj, k1, m_bits k2, if_neg (nI_ne0 p3 (by omega))]
theorem m_count (h : MdR I J ns ct ps im tx tr) (x : Int32) (Q : Int32 → Mem → Prop) : WI d i_MD_count [.ref 248, .int x] (mm L I J) Q ↔ Q (if x = 0 then nI ns.length else if x = 1 then nI tx.length else -1) (mm L I J) := by
  rw [E_MD_count, mm_C, if_pos CL248, if_pos CL248, mm_I, h.1, h.2.2.2.2.1.1, pif (Q := Q), pif (Q := Q)]
end MD11
