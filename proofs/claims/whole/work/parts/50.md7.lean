section MD7
variable {d L : Nat} {I : Nat → Nat → Int32} {J : Nat → Nat → Int64} {ns : List (List Nat)} {ct : List Nat}
theorem m_unl_loop (h : Ml I 249 0 ns ct) {a b : Nat} (ha : a < ns.length) (hb : b < ns.length) (he : (nmO ns a).length = (nmO ns b).length) (Q : Option Value → Mem → Prop) : ∀ n k s, k + n = (nmO ns a).length →
    (Wn (d + 1) i_MD_unlike 29 [(0, .ref 248), (1, .int (nI a)), (2, .int (nI b)), (3, .int (nI s)), (4, .int (nI k))] [] (mm L I J) Q ↔ Q (some (.int (nI (s + cnt (fun j => !(g0 (nmO ns a) j == g0 (nmO ns b) j)) n k)))) (mm L I J)) := by
  have h6 := h.2.2.2.1
  have la := mle h ha
  have e0 : ∀ s : Nat, nI s + 0 = nI s := fun s => nI_add s 0
  intro n
  induction n with
  | zero =>
    intro k s hk
    rw [H_MD_unlike_29, e13]
    simp only [mm_C, mm_R, mm_L, mm_I, CL248, CL249, RR248_1, n249, LN249, ↓reduceIte]
    rw [if_pos (ok13 (by omega)), mlen h ha, if_neg (nI_nlt (by omega) (by omega))]
    rfl
  | succ n ih =>
    intro k s hk
    have x1 := Sg_6 (h.2.2.2.2 a ha).2.2 (show k < (nmO ns a).length by omega)
    have x2 := Sg_6 (h.2.2.2.2 b hb).2.2 (show k < (nmO ns b).length by omega)
    rw [H_MD_unlike_29, e13]
    simp only [mm_C, mm_R, mm_L, mm_I, CL248, CL249, RR248_1, n249, LN249, ↓reduceIte]
    rw [if_pos (ok13 (by omega)), mlen h ha, if_pos (nI_lt (by omega) (by omega)), m_turnAt h ha (by omega), mm_C, if_pos CL248, m_turnAt h hb (by omega), e0, nI_1, nI_1, ih (k + 1) s (by omega), ih (k + 1) (s + 1) (by omega)]
    by_cases e : (nmO ns a).getD k 0 = (nmO ns b).getD k 0
    · rw [if_pos (by rw [e]), cnt_f (nb_f e)]
    · rw [if_neg (fun q => e ((nI_eq (by omega) (by omega)).mp q)), cnt_t (nb_t e), Nat.add_assoc]
theorem m_unl (h : Ml I 249 0 ns ct) {a b : Nat} (ha : a < ns.length) (hb : b < ns.length) (Q : Int32 → Mem → Prop) : WI (d + 1) i_MD_unlike [.ref 248, .int (nI a), .int (nI b)] (mm L I J) Q ↔ Q (if (nmO ns a).length = (nmO ns b).length then nI (difs (nmO ns a) (nmO ns b)) else 1000000) (mm L I J) := by
  have h6 := h.2.2.2.1
  have la := mle h ha
  have lb := mle h hb
  rw [E_MD_unlike, e13, e13]
  simp only [mm_C, mm_R, mm_L, mm_I, CL248, CL249, RR248_1, n249, LN249, ↓reduceIte]
  rw [if_pos (ok13 (by omega)), if_pos (ok13 (by omega)), mlen h ha, mlen h hb]
  by_cases e : (nmO ns a).length = (nmO ns b).length
  · rw [if_pos (by rw [e]), if_pos e]
    have := m_unl_loop (d := d) (L := L) (J := J) h ha hb e (QI Q) (nmO ns a).length 0 0 (by omega)
    rw [Nat.zero_add, nI_0] at this
    exact this
  · rw [if_neg (fun q => e ((nI_eq (by omega) (by omega)).mp q)), if_neg e]
end MD7
