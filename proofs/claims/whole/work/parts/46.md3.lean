/-- l lies in the cell a from o on -/
def Sg (I : Nat → Nat → Int32) (a o : Nat) (l : List Nat) : Prop := (∀ k, k < l.length → I a (o + k) = nI (l.getD k 0)) ∧ ∀ x ∈ l, x < 6
/-- the model's camp in the cell a from o on -/
def Ml (I : Nat → Nat → Int32) (a o : Nat) (ns : List (List Nat)) (ct : List Nat) : Prop := I a o = nI ct.length ∧ ct.length ≤ 12 ∧ Sg I a (o + 1) ct ∧ ns.length ≤ 6 ∧ ∀ h, h < ns.length → I a (o + 13 + h) = nI (nmO ns h).length ∧ (nmO ns h).length ≤ 12 ∧ Sg I a (o + 19 + 12 * h) (nmO ns h)
section MD3
variable {d L : Nat} {J : Nat → Nat → Int64}
theorem Sg_6 {I : Nat → Nat → Int32} {a o : Nat} {l : List Nat} (h : Sg I a o l) {k : Nat} (hk : k < l.length) : l.getD k 0 < 6 := by
  apply h.2
  rw [List.getD_eq_getElem?_getD, List.getElem?_eq_getElem hk]
  exact List.getElem_mem hk
theorem m_tieRow_loop {f : Nat} {m : List Nat} (hf : f + m.length ≤ 91) (Q : Option Value → Mem → Prop) : ∀ (n k : Nat) (I : Nat → Nat → Int32) (l : List Nat), k + n = m.length → Sg I 249 f m → Cd I l → l.length + n ≤ 72 → (∀ I', Cd I' (tieAll l (m.drop k)) → FrK I I' → Q none (mm L I' J)) →
    Wn (d + 1) i_MD_tieRow 2 [(0, .ref 248), (1, .int (nI f)), (2, .int (nI m.length)), (3, .int (nI k))] [] (mm L I J) Q := by
  intro n
  induction n with
  | zero =>
    intro k I l hk hs hl hc h
    rw [H_MD_tieRow_2, if_neg (nI_nlt (by omega) (by omega))]
    have : m.drop k = [] := List.drop_eq_nil_of_le (by omega)
    rw [this] at h
    exact h I hl (FrK_rf I)
  | succ n ih =>
    intro k I l hk hs hl hc h
    have ht := Sg_6 hs (show k < m.length by omega)
    have hlen := tie_len l (m.getD k 0)
    rw [H_MD_tieRow_2, if_pos (nI_lt (by omega) (by omega))]
    simp only [mm_C, mm_R, mm_L, mm_I, CL248, CL249, RR248_1, n249, LN249, ↓reduceIte]
    rw [nI_add, if_pos ⟨by decide, inb_nI (by omega) (by omega)⟩, ix_nI (by omega), hs.1 k (by omega)]
    refine m_tie hl (by omega) ht _ (fun I' g1 g2 => ?_)
    rw [nI_1]
    refine ih (k + 1) I' _ (by omega) ⟨fun j hj => by rw [g2.1 249 (by omega) (by omega)]; exact hs.1 j hj, hs.2⟩ g1 (by omega) (fun I'' f1 f2 => ?_)
    refine h I'' ?_ (FrK_tr g2 f2)
    rw [drop_cons (by omega)]
    exact f1
theorem m_tieRow {I : Nat → Nat → Int32} {f : Nat} {m l : List Nat} (hf : f + m.length ≤ 91) (hs : Sg I 249 f m) (hl : Cd I l) (hc : l.length + m.length ≤ 72) (Q : Mem → Prop) (h : ∀ I', Cd I' (tieAll l m) → FrK I I' → Q (mm L I' J)) : WV (d + 1) i_MD_tieRow [.ref 248, .int (nI f), .int (nI m.length)] (mm L I J) Q := by
  rw [E_MD_tieRow]
  have := m_tieRow_loop (d := d) (L := L) (J := J) hf (QV Q) m.length 0 I l (by omega) hs hl hc h
  rw [nI_0] at this
  exact this
theorem m_tieName {I : Nat → Nat → Int32} {ns : List (List Nat)} {ct l : List Nat} (hm : Ml I 249 0 ns ct) {j : Nat} (hj : j < ns.length) (hl : Cd I l) (hc : l.length + (nmO ns j).length ≤ 72) (Q : Mem → Prop) (h : ∀ I', Cd I' (tieAll l (nmO ns j)) → FrK I I' → Q (mm L I' J)) : WV (d + 2) i_MD_tieName [.ref 248, .int (nI j)] (mm L I J) Q := by
  obtain ⟨a1, a2, a3, a4, a5⟩ := hm
  obtain ⟨b1, b2, b3⟩ := a5 j hj
  have e13 : (13 : Int32) + nI j = nI (13 + j) := nI_add 13 j
  have e19 : (19 : Int32) + (12 : Int32) * nI j = nI (19 + 12 * j) := by
    have : (12 : Int32) * nI j = nI (12 * j) := pk_mul 12 j
    rw [this]
    exact nI_add 19 _
  rw [Nat.zero_add] at b1 b3
  rw [E_MD_tieName, e13, e19]
  simp only [mm_C, mm_R, mm_L, mm_I, CL248, CL249, RR248_1, n249, LN249, ↓reduceIte]
  rw [if_pos ⟨by decide, inb_nI (by omega) (by omega)⟩, ix_nI (by omega), b1]
  exact m_tieRow (by omega) b3 hl hc _ h
end MD3
