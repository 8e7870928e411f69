/-- the model's past: the newest camp first, at the place before undos -/
def PmR (I : Nat → Nat → Int32) (ps : List Cp) : Prop := I 248 3 = nI ps.length ∧ ps.length ≤ 10 ∧ ∀ i, i < ps.length → Ml I 250 (91 * (ps.length - 1 - i)) (ps.getD i cp0).1 (ps.getD i cp0).2
def ImM (I : Nat → Nat → Int32) (im : Nat → Option Cp) : Prop := ∀ m, m < 2 → I 252 m = bI (im m).isSome ∧ ∀ p, im m = some p → Ml I 251 (91 * m) p.1 p.2
def TxM (I : Nat → Nat → Int32) (tx : List Nat) : Prop := I 248 7 = nI tx.length ∧ tx.length ≤ 200 ∧ ∀ k, k < tx.length → I 253 k = nI (tx.getD k 0) ∧ tx.getD k 0 < 256
def MdR (I : Nat → Nat → Int32) (J : Nat → Nat → Int64) (ns : List (List Nat)) (ct : List Nat) (ps : List Cp) (im : Nat → Option Cp) (tx : List Nat) (tr : Int64) : Prop := I 248 0 = nI ns.length ∧ Ml I 249 0 ns ct ∧ PmR I ps ∧ ImM I im ∧ TxM I tx ∧ J 248 8 = tr
section MD5
variable {d L : Nat} {I : Nat → Nat → Int32} {J : Nat → Nat → Int64} {ns : List (List Nat)} {ct : List Nat} {ps : List Cp} {im : Nat → Option Cp} {tx : List Nat} {tr : Int64}
theorem m_herd (h : MdR I J ns ct ps im tx tr) (x : Int32) (Q : Int32 → Mem → Prop) : WI (d + 1) i_MD_isHerder [.ref 248, .int x] (mm L I J) Q ↔ Q (bI (decide (0 ≤ x ∧ x ≤ nI ns.length - 1))) (mm L I J) := by
  rw [E_MD_isHerder, mm_C, if_pos CL248, mm_I, h.1]
  have := m_in (d := d) (M := mm L I J) x 0 (nI ns.length - 1) (fun x2 M1 => if x2 = 0 ∨ x2 = 1 then Q x2 M1 else False)
  rw [if_pos (bI_01 _)] at this
  exact this
theorem has_Y {n h : Nat} (hn : n ≤ 6) (hh : h < n) : decide ((0 : Int32) ≤ nI h ∧ nI h ≤ nI n - 1) = true := by
  rw [nI_m1 (by omega)]
  exact decide_eq_true ⟨nI_pos' (by omega), nI_le (by omega) (by omega)⟩
theorem has_N {n : Nat} (hn : n ≤ 6) {x : Int32} (hx : x < 0 ∨ nI n ≤ x) : decide ((0 : Int32) ≤ x ∧ x ≤ nI n - 1) = false := by
  refine decide_eq_false (fun q => ?_)
  rcases hx with h | h
  · exact absurd h (Int32.not_lt.mpr q.1)
  · by_cases h0 : n = 0
    · rw [h0] at q
      have q2 : x ≤ -1 := q.2
      exact absurd (Int32.le_trans q.1 q2) (by decide)
    · rw [nI_m1 (by omega)] at q
      exact absurd (Int32.le_trans h q.2) (nI_ge (by omega) (by omega))
theorem m_herdY (h : MdR I J ns ct ps im tx tr) {j : Nat} (hj : j < ns.length) (Q : Int32 → Mem → Prop) : WI (d + 1) i_MD_isHerder [.ref 248, .int (nI j)] (mm L I J) Q ↔ Q 1 (mm L I J) := by
  rw [m_herd h, has_Y h.2.1.2.2.2.1 hj]
  exact Iff.rfl
theorem m_herdN (h : MdR I J ns ct ps im tx tr) {x : Int32} (hx : x < 0 ∨ nI ns.length ≤ x) (Q : Int32 → Mem → Prop) : WI (d + 1) i_MD_isHerder [.ref 248, .int x] (mm L I J) Q ↔ Q 0 (mm L I J) := by
  rw [m_herd h, has_N h.2.1.2.2.2.1 hx]
  exact Iff.rfl
theorem m_trace (h : MdR I J ns ct ps im tx tr) (Q : Int64 → Mem → Prop) : WL d i_MD_trace [.ref 248] (mm L I J) Q ↔ Q tr (mm L I J) := by
  rw [E_MD_trace, mm_C, if_pos CL248, mm_J, h.2.2.2.2.2]
end MD5
