section MD9
variable {d L : Nat} {I : Nat → Nat → Int32} {J : Nat → Nat → Int64} {ns : List (List Nat)} {ct : List Nat}
theorem cnt_0 {P : Nat → Bool} : ∀ n k, cnt P n k = 0 ↔ ∀ j, k ≤ j → j < k + n → P j = false := by
  intro n
  induction n with
  | zero => intro k; exact ⟨fun _ j h1 h2 => by omega, fun _ => rfl⟩
  | succ n ih =>
    intro k
    by_cases h : P k = true
    · rw [cnt_t h]
      constructor
      · intro q; omega
      · intro q
        have := q k (Nat.le_refl _) (by omega)
        rw [h] at this
        cases this
    · have h : P k = false := by simpa using h
      rw [cnt_f h, ih (k + 1)]
      constructor
      · intro q j h1 h2
        by_cases e : j = k
        · rw [e]; exact h
        · exact q j (by omega) (by omega)
      · intro q j h1 h2
        exact q j (by omega) (by omega)
theorem difs_0 {l m : List Nat} (h : l.length = m.length) : difs l m = 0 ↔ l = m := by
  unfold difs
  rw [cnt_0]
  constructor
  · intro q
    apply List.ext_getElem h
    intro j h1 h2
    have := q j (by omega) (by omega)
    simp [g0, h1, h2] at this
    exact this
  · intro q j _ _
    rw [q]
    simp
theorem lik_mix (j : Nat) : ∀ e, likP ns j e = mixP ns j 0 e := by
  intro e
  unfold likP mixP
  by_cases h : nmO ns e = nmO ns j
  · rw [decide_eq_true h, decide_eq_true ⟨by rw [h], by rw [(difs_0 (by rw [h])).mpr h.symm]; exact Nat.le_refl _⟩]
  · rw [decide_eq_false h, decide_eq_false (fun q => h ((difs_0 q.1).mp (by omega)).symm)]
theorem m_alikeOf (hm : I 248 0 = nI ns.length) (h : Ml I 249 0 ns ct) {a : Nat} (ha : a < ns.length) (Q : Int32 → Mem → Prop) : WI (d + 3) i_MD_alikeOf [.ref 248, .int (nI a)] (mm L I J) Q ↔ Q (likS ns a) (mm L I J) := by
  have e0 : (0 : Int32) = nI 0 := by rw [nI_0]
  have := m_near (d := d) (L := L) (J := J) hm h (a := a) (D := 0) ha (by omega) (fun x2 M1 => Q x2 M1)
  rw [nI_0] at this
  rw [E_MD_alikeOf, mm_C, if_pos CL248, this]
  unfold likS
  rw [bts_cg ns.length 0 0 (fun j _ _ => lik_mix (ns := ns) a j)]
end MD9
