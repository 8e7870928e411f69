/-! ===== the text of the class ===== -/
def tnL (q : Nat) : Int32 := if q = 117 then 0 else if q = 100 then 1 else if q = 108 then 2 else if q = 114 then 3 else if q = 105 then 4 else if q = 111 then 5 else -1
def SxR (I : Nat → Nat → Int32) : Prop := I 1000001 1 = 0 ∧ I 1000002 0 = 117 ∧ I 1000002 1 = 100 ∧ I 1000002 2 = 108 ∧ I 1000002 3 = 114 ∧ I 1000002 4 = 105 ∧ I 1000002 5 = 111
theorem tnL_c : ∀ q : Fin 256, (if (117 : Int32) = Int8.toInt32 (Int32.toInt8 (nI q.1)) then (0 : Int32) else if (100 : Int32) = Int8.toInt32 (Int32.toInt8 (nI q.1)) then 1 else if (108 : Int32) = Int8.toInt32 (Int32.toInt8 (nI q.1)) then 2 else if (114 : Int32) = Int8.toInt32 (Int32.toInt8 (nI q.1)) then 3 else if (105 : Int32) = Int8.toInt32 (Int32.toInt8 (nI q.1)) then 4 else if (111 : Int32) = Int8.toInt32 (Int32.toInt8 (nI q.1)) then 5 else -1) = tnL q.1 := by decide +kernel
theorem CLs : CL 1000001 = 20 := by decide
theorem CLb : CL 1000002 = 13 := by decide
theorem RRs : RR 1000001 0 = 1000002 := by decide
theorem LNb (L : Nat) : LN L 1000002 = 6 := rfl
section TextC
variable {d L : Nat} {I : Nat → Nat → Int32} {J : Nat → Nat → Int64}
theorem pif {c : Prop} [Decidable c] {Q : Int32 → Mem → Prop} {a b : Int32} {M : Mem} : Q (if c then a else b) M ↔ (if c then Q a M else Q b M) := by split <;> exact Iff.rfl
theorem ix_step {k : Nat} (hk : k < 6) (v1 v4 : Int32) (Q : Option Value → Mem → Prop) : Wn d i_JLat_indexOfChar 7 [(0, .ref 1000002), (1, .int v1), (2, .int 0), (3, .int 6), (4, .int v4), (5, .int (nI k))] [] (mm L I J) Q ↔ (if I 1000002 k = v4 then Q (some (.int (nI k))) (mm L I J) else Wn d i_JLat_indexOfChar 7 [(0, .ref 1000002), (1, .int v1), (2, .int 0), (3, .int 6), (4, .int v4), (5, .int (nI (k + 1)))] [] (mm L I J) Q) := by
  have h6 : nI k < nI 6 := nI_lt hk (by omega)
  have h6 : nI k < 6 := h6
  rw [H_JLat_indexOfChar_7, if_pos h6, mm_C, mm_L, mm_I, CLb, LNb, if_pos ⟨by decide, inb_nI hk (by omega)⟩, ix_nI (by omega), nI_1]
theorem c_ixChar (hS : SxR I) {q : Nat} (hq : q < 256) (Q : Int32 → Mem → Prop) : WI d i_JLat_indexOfChar [.ref 1000002, .int (nI q), .int 0, .int 6] (mm L I J) Q ↔ Q (tnL q) (mm L I J) := by
  obtain ⟨s0, s1, s2, s3, s4, s5, s6⟩ := hS
  have e0 : (0 : Int32) = nI 0 := by rw [nI_0]
  rw [← tnL_c ⟨q, hq⟩, pif (Q := Q), pif (Q := Q), pif (Q := Q), pif (Q := Q), pif (Q := Q), pif (Q := Q)]
  rw [E_JLat_indexOfChar]
  have := ix_step (d := d) (L := L) (I := I) (J := J) (show 0 < 6 by omega) (nI q) (Int8.toInt32 (Int32.toInt8 (nI q))) (QI Q)
  rw [nI_0] at this
  rw [this, ix_step (by omega), ix_step (by omega), ix_step (by omega), ix_step (by omega), ix_step (by omega), H_JLat_indexOfChar_7, if_neg (show ¬ nI (0 + 1 + 1 + 1 + 1 + 1 + 1) < 6 by decide), s1, s2, s3, s4, s5, s6]
  exact Iff.rfl
theorem c_ixOf (hS : SxR I) {q : Nat} (hq : q < 256) (Q : Int32 → Mem → Prop) : WI (d + 4) i_JStr_indexOf [.ref 1000001, .int (nI q)] (mm L I J) Q ↔ Q (tnL q) (mm L I J) := by
  have s0 := hS.1
  have n1 : ¬ nI q < 0 := nI_pos (by omega)
  have n2 : ¬ (255 : Int32) < nI q := by
    have : ¬ nI 255 < nI q := nI_nlt (by omega) (by omega)
    exact this
  have a1 : isA 13 := by decide
  have l1 : (if nI 6 < (nI 6 >>> ((0 : Int32) &&& 31)) then nI 6 else (nI 6 >>> ((0 : Int32) &&& 31))) = (6 : Int32) := by decide
  rw [E_JStr_indexOf, mm_C, if_pos CLs, E_JStr_indexOf2, mm_C, if_pos CLs, E_JStr_isLatin1, if_neg (by decide), mm_C, if_pos CLs, mm_I, if_pos s0, if_neg (by decide), if_pos CLs, mm_R, RRs, if_neg (by omega), if_pos CLs, E_JStr_length, mm_C, if_pos CLs, mm_R, RRs, if_neg (by omega), CLb, if_pos a1, if_pos CLs, E_JStr_coder, if_neg (by decide), mm_C, if_pos CLs, mm_I, s0, if_pos (by decide), mm_L, LNb, E_JLat_indexOf, E_JLat_canEncode, if_neg n1, if_neg n2, if_neg (by decide), mm_C, CLb, if_pos a1, mm_L, LNb, if_neg (show ¬ (0 : Int32) < 0 by decide), l1, if_pos (by decide), c_ixChar hS hq]
theorem c_isTL (hS : SxR I) {q : Nat} (hq : q < 256) (Q : Int32 → Mem → Prop) : WI (d + 5) i_Text_isTurnLetter [.int (nI q)] (mm L I J) Q ↔ Q (if tnL q < 0 then 0 else 1) (mm L I J) := by
  rw [E_Text_isTurnLetter, mm_C, if_pos CLs, c_ixOf hS hq, pif (Q := Q)]
end TextC
