section MD10
variable {d L : Nat} {I : Nat → Nat → Int32} {J : Nat → Nat → Int64} {ns : List (List Nat)} {ct : List Nat} {ps : List Cp} {im : Nat → Option Cp} {tx : List Nat} {tr : Int64}
theorem m_names_loop (hm : I 248 0 = nI ns.length) (h : Ml I 249 0 ns ct) (Q : Option Value → Mem → Prop) : ∀ n k s, k + n = ns.length →
    (Wn (d + 4) i_MD_namesThere 4 [(0, .ref 248), (1, .int (nI s)), (2, .int (nI k))] [] (mm L I J) Q ↔ Q (some (.int (nI (s + cnt (unlP ns) n k)))) (mm L I J)) := by
  have h6 := h.2.2.2.1
  have e0 : ∀ s : Nat, nI s + 0 = nI s := fun s => nI_add s 0
  intro n
  induction n with
  | zero =>
    intro k s hk
    rw [H_MD_namesThere_4, mm_C, if_pos CL248, mm_I, hm, if_neg (nI_nlt (by omega) (by omega))]
    rfl
  | succ n ih =>
    intro k s hk
    rw [H_MD_namesThere_4, mm_C, if_pos CL248, mm_I, hm, if_pos (nI_lt (by omega) (by omega)), if_pos CL248, m_alikeOf hm h (by omega), e0, nI_1, nI_1, ih (k + 1) _ (by omega), ih (k + 1) _ (by omega)]
    by_cases e : likS ns k &&& (((1 : Int32) <<< (nI k &&& 31)) - 1) = 0
    · rw [if_pos e, cnt_t (P := unlP ns) (by unfold unlP; rw [e]; rfl), Nat.add_assoc]
    · rw [if_neg e, cnt_f (P := unlP ns) (by unfold unlP; exact beq_false_of_ne e)]
theorem m_names (hm : I 248 0 = nI ns.length) (h : Ml I 249 0 ns ct) (Q : Int32 → Mem → Prop) : WI (d + 4) i_MD_namesThere [.ref 248] (mm L I J) Q ↔ Q (nI (cnt (unlP ns) ns.length 0)) (mm L I J) := by
  rw [E_MD_namesThere]
  have := m_names_loop (d := d) (L := L) (J := J) hm h (QI Q) ns.length 0 0 (by omega)
  rw [Nat.zero_add, nI_0] at this
  exact this
theorem m_alikeN (h : MdR I J ns ct ps im tx tr) {x : Int32} (hx : x < 0 ∨ nI ns.length ≤ x) (Q : Int32 → Mem → Prop) : WI (d + 2) i_MD_alike [.ref 248, .int x] (mm L I J) Q ↔ Q (-1) (mm L I J) := by
  rw [E_MD_alike, mm_C, if_pos CL248, m_herdN h hx, if_pos rfl]
theorem m_alikeY (h : MdR I J ns ct ps im tx tr) {j : Nat} (hj : j < ns.length) (Q : Int32 → Mem → Prop) : WI (d + 4) i_MD_alike [.ref 248, .int (nI j)] (mm L I J) Q ↔ Q (likS ns j) (mm L I J) := by
  rw [E_MD_alike, mm_C, if_pos CL248, m_herdY h hj, if_neg i10, mm_C, if_pos CL248, m_alikeOf h.1 h.2.1 hj]
theorem m_mixedN (h : MdR I J ns ct ps im tx tr) {x y : Int32} (hx : x < 0 ∨ nI ns.length ≤ x) (Q : Int32 → Mem → Prop) : WI (d + 2) i_MD_mixed [.ref 248, .int x, .int y] (mm L I J) Q ↔ Q (-1) (mm L I J) := by
  rw [E_MD_mixed, mm_C, if_pos CL248, m_herdN h hx, if_pos rfl]
theorem m_clear (h : MdR I J ns ct ps im tx tr) (Q : Int32 → Mem → Prop) : WI d i_MD_clear [.ref 248] (mm L I J) Q ↔ Q (nI tx.length) (mm L (up2 I 248 7 0) J) := by
  rw [E_MD_clear, mm_C, if_pos CL248, if_pos CL248, mm_I, h.2.2.2.2.1.1, mm_sI]
end MD10
