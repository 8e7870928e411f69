section MD4
variable {d L : Nat} {J : Nat → Nat → Int64}
/-- the first n of the places are copied -/
def cpN (I : Nat → Nat → Int32) (a i b j n : Nat) : Nat → Nat → Int32 := fun x k => if x = b ∧ j ≤ k ∧ k < j + n then I a (i + (k - j)) else I x k
theorem cpN_s (I : Nat → Nat → Int32) {a i b j n : Nat} (hab : a ≠ b) : up2 (cpN I a i b j n) b (j + n) (cpN I a i b j n a (i + n)) = cpN I a i b j (n + 1) := by
  have e : cpN I a i b j n a (i + n) = I a (i + n) := by unfold cpN; rw [if_neg (fun q => hab q.1)]
  rw [e]
  funext x k
  unfold up2 cpN
  by_cases c : x = b ∧ k = j + n
  · rw [if_pos c, if_pos ⟨c.1, by omega, by omega⟩, c.2, Nat.add_sub_cancel_left]
  · rw [if_neg c]
    by_cases c2 : x = b ∧ j ≤ k ∧ k < j + n
    · rw [if_pos c2, if_pos ⟨c2.1, c2.2.1, by omega⟩]
    · rw [if_neg c2, if_neg (fun q => c2 ⟨q.1, q.2.1, by
        have : ¬ k = j + n := fun r => c ⟨q.1, r⟩
        omega⟩)]
theorem m_copies_loop {I : Nat → Nat → Int32} {a i b j la lb : Nat} (hab : a ≠ b) (ha : CL a = 10) (hb : CL b = 10) (hla : LN L a = la) (hlb : LN L b = lb) (hi : i + 91 ≤ la) (hj : j + 91 ≤ lb) (h1 : la < 2000) (h2 : lb < 2000) (Q : Option Value → Mem → Prop) : ∀ n k, k + n = 91 →
    (Wn d i_MD_copies 3 [(0, .ref a), (1, .int (nI i)), (2, .ref b), (3, .int (nI j)), (4, .int (nI k))] [] (mm L (cpN I a i b j k) J) Q ↔ Q none (mm L (cpN I a i b j 91) J)) := by
  intro n
  induction n with
  | zero =>
    intro k hk
    have e : k = 91 := by omega
    rw [H_MD_copies_3, e, if_neg (by decide)]
  | succ n ih =>
    intro k hk
    have e : nI k < nI 91 := nI_lt (by omega) (by omega)
    have e : nI k < 91 := e
    rw [H_MD_copies_3, if_pos e, nI_add, nI_add, mm_C, mm_L, mm_I, ha, hla, if_pos ⟨by decide, inb_nI (by omega) (by omega)⟩, if_pos ⟨hb, by rw [hlb]; exact inb_nI (by omega) (by omega)⟩, mm_sI, ix_nI (by omega), ix_nI (by omega), cpN_s I hab, nI_1, ih (k + 1) (by omega)]
theorem cpN_0 (I : Nat → Nat → Int32) (a i b j : Nat) : cpN I a i b j 0 = I := by
  funext x k
  unfold cpN
  rw [if_neg (fun q => by omega)]
theorem m_copies {I : Nat → Nat → Int32} {a i b j la lb : Nat} (hab : a ≠ b) (ha : CL a = 10) (hb : CL b = 10) (hla : LN L a = la) (hlb : LN L b = lb) (hi : i + 91 ≤ la) (hj : j + 91 ≤ lb) (h1 : la < 2000) (h2 : lb < 2000) (Q : Mem → Prop) : WV d i_MD_copies [.ref a, .int (nI i), .ref b, .int (nI j)] (mm L I J) Q ↔ Q (mm L (cpN I a i b j 91) J) := by
  rw [E_MD_copies]
  have := m_copies_loop (d := d) (J := J) (I := I) hab ha hb hla hlb hi hj h1 h2 (QV Q) 91 0 (by omega)
  rw [nI_0, cpN_0] at this
  exact this
end MD4
