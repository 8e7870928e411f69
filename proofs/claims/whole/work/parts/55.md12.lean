section MD12
variable {d L : Nat} {I : Nat → Nat → Int32} {J : Nat → Nat → Int64} {ns : List (List Nat)} {ct : List Nat} {ps : List Cp} {im : Nat → Option Cp} {tx : List Nat} {tr : Int64}
theorem m_now_loop (hm : I 248 0 = nI ns.length) (h : Ml I 249 0 ns ct) (v : Int32) (Q : Option Value → Mem → Prop) : ∀ n k s, k + n = ns.length →
    (Wn (d + 1) i_MD_now 36 [(0, .ref 248), (1, .int v), (2, .int s), (3, .int (nI k))] [] (mm L I J) Q ↔ Q (some (.int (bts (namP ns) n k s))) (mm L I J)) := by
  have h6 := h.2.2.2.1
  intro n
  induction n with
  | zero =>
    intro k s hk
    rw [H_MD_now_36, mm_C, if_pos CL248, mm_I, hm, if_neg (nI_nlt (by omega) (by omega))]
    rfl
  | succ n ih =>
    intro k s hk
    have lk := mle h (show k < ns.length by omega)
    rw [H_MD_now_36, e13]
    simp only [mm_C, mm_R, mm_L, mm_I, CL248, CL249, RR248_1, n249, LN249, ↓reduceIte, hm]
    rw [if_pos (nI_lt (by omega) (by omega)), if_pos (ok13 (by omega)), mlen h (by omega), Int32.or_zero, nI_1, ih (k + 1) _ (by omega), ih (k + 1) _ (by omega)]
    by_cases e : 0 < (nmO ns k).length
    · have e1 : (0 : Int32) < nI (nmO ns k).length := nI_lt e (by omega)
      rw [if_pos e1, bts_t (P := namP ns) (decide_eq_true e)]
    · have e0 : (nmO ns k).length = 0 := by omega
      rw [if_neg (by rw [e0]; decide), bts_f (P := namP ns) (decide_eq_false e)]
theorem m_now (h : MdR I J ns ct ps im tx tr) (x : Int32) (Q : Int32 → Mem → Prop) : WI (d + 5) i_MD_now [.ref 248, .int x] (mm L I J) Q ↔ Q (if Int32.toInt x = 0 then bts (namP ns) ns.length 0 0 else if Int32.toInt x = 1 then nI (cnt (unlP ns) ns.length 0) else if Int32.toInt x = 2 then nI (sumL ns ns.length 0) else if Int32.toInt x = 3 then nI ps.length else -1) (mm L I J) := by
  have lp := m_now_loop (d := d + 4) (L := L) (J := J) h.1 h.2.1 x (QI Q) ns.length 0 0 (by omega)
  rw [nI_0] at lp
  rw [E_MD_now, lp, mm_C, if_pos CL248, if_pos CL248, if_pos CL248, m_names h.1 h.2.1, m_turns h.1 h.2.1, mm_I, h.2.2.1.1, pif (Q := Q), pif (Q := Q), pif (Q := Q), pif (Q := Q)]
  exact Iff.rfl
end MD12
