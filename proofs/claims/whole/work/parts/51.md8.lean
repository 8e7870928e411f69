section MD8
variable {d L : Nat} {I : Nat → Nat → Int32} {J : Nat → Nat → Int64} {ns : List (List Nat)} {ct : List Nat}
theorem m_near_loop (hm : I 248 0 = nI ns.length) (h : Ml I 249 0 ns ct) {a D : Nat} (ha : a < ns.length) (hD : D ≤ 12) (Q : Option Value → Mem → Prop) : ∀ n k s, k + n = ns.length →
    (Wn (d + 2) i_MD_nearTo 5 [(0, .ref 248), (1, .int (nI a)), (2, .int (nI D)), (3, .int s), (4, .int (nI k))] [] (mm L I J) Q ↔ Q (some (.int (bts (mixP ns a D) n k s))) (mm L I J)) := by
  have h6 := h.2.2.2.1
  have la := mle h ha
  intro n
  induction n with
  | zero =>
    intro k s hk
    rw [H_MD_nearTo_5, mm_C, if_pos CL248, mm_I, hm, if_neg (nI_nlt (by omega) (by omega))]
    rfl
  | succ n ih =>
    intro k s hk
    have dl := difs_le (nmO ns a) (nmO ns k)
    rw [H_MD_nearTo_5, mm_C, if_pos CL248, mm_I, hm, if_pos (nI_lt (by omega) (by omega)), if_pos CL248, m_unl h ha (by omega), Int32.or_zero, nI_1, ih (k + 1) _ (by omega), ih (k + 1) _ (by omega)]
    by_cases e : (nmO ns a).length = (nmO ns k).length
    · rw [if_pos e]
      by_cases e2 : difs (nmO ns a) (nmO ns k) ≤ D
      · rw [if_neg (nI_nlt (by omega) (by omega)), bts_t (P := mixP ns a D) (decide_eq_true ⟨e, e2⟩)]
      · rw [if_pos (nI_lt (by omega) (by omega)), bts_f (P := mixP ns a D) (decide_eq_false (fun q => e2 q.2))]
    · have x : nI D < nI 1000000 := nI_lt (by omega) (by omega)
      have x : nI D < 1000000 := x
      rw [if_neg e, if_pos x, bts_f (P := mixP ns a D) (decide_eq_false (fun q => e q.1))]
theorem m_near (hm : I 248 0 = nI ns.length) (h : Ml I 249 0 ns ct) {a D : Nat} (ha : a < ns.length) (hD : D ≤ 12) (Q : Int32 → Mem → Prop) : WI (d + 2) i_MD_nearTo [.ref 248, .int (nI a), .int (nI D)] (mm L I J) Q ↔ Q (bts (mixP ns a D) ns.length 0 0) (mm L I J) := by
  rw [E_MD_nearTo]
  have := m_near_loop (d := d) (L := L) (J := J) hm h ha hD (QI Q) ns.length 0 0 (by omega)
  rw [nI_0] at this
  exact this
end MD8
