/-! ===== the law: its cases and its loop (by law.py) ===== -/
theorem CLx : CL 1000000 = 17 := by decide
theorem LNx (L : Nat) : LN L 1000000 = L := rfl
theorem WI_mono {d i : Nat} {As : List Value} {M : Mem} {Q Q' : Int32 → Mem → Prop} (h : ∀ v M', Q v M' → Q' v M') (hw : WI d i As M Q) : WI d i As M Q' := Wn_mono (fun v M' q => by obtain ⟨x, rfl, q⟩ := QI_s q; exact h x M' q) hw
theorem WL_mono {d i : Nat} {As : List Value} {M : Mem} {Q Q' : Int64 → Mem → Prop} (h : ∀ v M', Q v M' → Q' v M') (hw : WL d i As M Q) : WL d i As M Q' := Wn_mono (fun v M' q => by obtain ⟨x, rfl, q⟩ := QL_s q; exact h x M' q) hw
theorem ite_i {c : Prop} [Decidable c] {A B : Prop} (a : A) (b : B) : (if c then A else B) := by
  split
  · exact a
  · exact b
section LAWC
variable {L i : Nat} {xs : Nat → Int32} {I : Nat → Nat → Int32} {J : Nat → Nat → Int64} {ns : List (List Nat)} {ct : List Nat} {ps : List Cp} {im : Nat → Option Cp} {tx : List Nat} {tr : Int64}
theorem kx {c : Nat} (hi : i + 5 ≤ L) (hL : L ≤ 320) (hc : c < 5) : rdI 17 ∧ inb (nI i + nI c) L := by
  rw [nI_add]
  exact ⟨by decide, inb_nI (by omega) (by omega)⟩
theorem t_172 (hi : i + 5 ≤ L) (hL : L ≤ 320) (R : RLw xs I J ns ct ps im tx tr) (Q : Option Value → Mem → Prop) (hN : RKw L xs (fun M => Wn 12 i_LAW_law 18 [(0, .ref 1000000), (1, .ref 0), (2, .ref 248), (3, .int (nI i + 5))] [] M Q)) : Wn 12 i_LAW_law 172 [(0, .ref 1000000), (1, .ref 0), (2, .ref 248), (3, .int (nI i))] [] (mm L I J) Q := by
  have hX := R.2.2.1
  have k1 : rdI 17 ∧ inb (nI i + 1) L := kx (c := 1) hi hL (by omega)
  rw [C_LAW_law_172]
  simp only [mm_C, mm_L, mm_I, CLx, LNx, CL0, ↓reduceIte]
  rw [if_pos k1]
  refine WI_mono (fun a M1 q => ?_) (s_type R _ hN)
  obtain ⟨I1, J1, e, hX1, hw⟩ := q
  subst e
  simp only [mm_C, mm_L, mm_I, CLx, LNx, CL248, ↓reduceIte]
  rw [if_pos k1, hX1, ← hX]
  exact WI_mono (fun b M3 q => by rw [if_pos (q.1)]; exact q.2) hw
theorem t_195 (hi : i + 5 ≤ L) (hL : L ≤ 320) (R : RLw xs I J ns ct ps im tx tr) (Q : Option Value → Mem → Prop) (hN : RKw L xs (fun M => Wn 12 i_LAW_law 18 [(0, .ref 1000000), (1, .ref 0), (2, .ref 248), (3, .int (nI i + 5))] [] M Q)) : Wn 12 i_LAW_law 195 [(0, .ref 1000000), (1, .ref 0), (2, .ref 248), (3, .int (nI i))] [] (mm L I J) Q := by
  have hX := R.2.2.1
  rw [C_LAW_law_195]
  simp only [mm_C, mm_L, mm_I, CLx, LNx, CL0, ↓reduceIte]
  refine WI_mono (fun a M1 q => ?_) (s_clear R  hN)
  obtain ⟨I1, J1, e, hX1, hw⟩ := q
  subst e
  simp only [mm_C, mm_L, mm_I, CLx, LNx, CL248, ↓reduceIte]
  exact WI_mono (fun b M3 q => by rw [if_pos (q.1)]; exact q.2) hw
theorem t_208 (hi : i + 5 ≤ L) (hL : L ≤ 320) (R : RLw xs I J ns ct ps im tx tr) (Q : Option Value → Mem → Prop) (hN : RKw L xs (fun M => Wn 12 i_LAW_law 18 [(0, .ref 1000000), (1, .ref 0), (2, .ref 248), (3, .int (nI i + 5))] [] M Q)) : Wn 12 i_LAW_law 208 [(0, .ref 1000000), (1, .ref 0), (2, .ref 248), (3, .int (nI i))] [] (mm L I J) Q := by
  have hX := R.2.2.1
  rw [C_LAW_law_208]
  simp only [mm_C, mm_L, mm_I, CLx, LNx, CL0, ↓reduceIte]
  refine WI_mono (fun a M1 q => ?_) (s_camp R  hN)
  obtain ⟨I1, J1, e, hX1, hw⟩ := q
  subst e
  simp only [mm_C, mm_L, mm_I, CLx, LNx, CL248, ↓reduceIte]
  exact WI_mono (fun b M3 q => by rw [if_pos (q.1)]; exact q.2) hw
theorem t_221 (hi : i + 5 ≤ L) (hL : L ≤ 320) (R : RLw xs I J ns ct ps im tx tr) (Q : Option Value → Mem → Prop) (hN : RKw L xs (fun M => Wn 12 i_LAW_law 18 [(0, .ref 1000000), (1, .ref 0), (2, .ref 248), (3, .int (nI i + 5))] [] M Q)) : Wn 12 i_LAW_law 221 [(0, .ref 1000000), (1, .ref 0), (2, .ref 248), (3, .int (nI i))] [] (mm L I J) Q := by
  have hX := R.2.2.1
  have k1 : rdI 17 ∧ inb (nI i + 1) L := kx (c := 1) hi hL (by omega)
  have k2 : rdI 17 ∧ inb (nI i + 2) L := kx (c := 2) hi hL (by omega)
  rw [C_LAW_law_221]
  simp only [mm_C, mm_L, mm_I, CLx, LNx, CL0, ↓reduceIte]
  rw [if_pos k1, if_pos k2]
  refine WI_mono (fun a M1 q => ?_) (s_name R _ _ hN)
  obtain ⟨I1, J1, e, hX1, hw⟩ := q
  subst e
  simp only [mm_C, mm_L, mm_I, CLx, LNx, CL248, ↓reduceIte]
  rw [if_pos k1, if_pos k2, hX1, ← hX]
  exact WI_mono (fun b M3 q => by rw [if_pos (q.1)]; exact q.2) hw
theorem t_254 (hi : i + 5 ≤ L) (hL : L ≤ 320) (R : RLw xs I J ns ct ps im tx tr) (Q : Option Value → Mem → Prop) (hN : RKw L xs (fun M => Wn 12 i_LAW_law 18 [(0, .ref 1000000), (1, .ref 0), (2, .ref 248), (3, .int (nI i + 5))] [] M Q)) : Wn 12 i_LAW_law 254 [(0, .ref 1000000), (1, .ref 0), (2, .ref 248), (3, .int (nI i))] [] (mm L I J) Q := by
  have hX := R.2.2.1
  have k1 : rdI 17 ∧ inb (nI i + 1) L := kx (c := 1) hi hL (by omega)
  rw [C_LAW_law_254]
  simp only [mm_C, mm_L, mm_I, CLx, LNx, CL0, ↓reduceIte]
  rw [if_pos k1]
  refine WI_mono (fun a M1 q => ?_) (s_contract R _ hN)
  obtain ⟨I1, J1, e, hX1, hw⟩ := q
  subst e
  simp only [mm_C, mm_L, mm_I, CLx, LNx, CL248, ↓reduceIte]
  rw [if_pos k1, hX1, ← hX]
  exact WI_mono (fun b M3 q => by rw [if_pos (q.1)]; exact q.2) hw
theorem t_277 (hi : i + 5 ≤ L) (hL : L ≤ 320) (R : RLw xs I J ns ct ps im tx tr) (Q : Option Value → Mem → Prop) (hN : RKw L xs (fun M => Wn 12 i_LAW_law 18 [(0, .ref 1000000), (1, .ref 0), (2, .ref 248), (3, .int (nI i + 5))] [] M Q)) : Wn 12 i_LAW_law 277 [(0, .ref 1000000), (1, .ref 0), (2, .ref 248), (3, .int (nI i))] [] (mm L I J) Q := by
  have hX := R.2.2.1
  have k1 : rdI 17 ∧ inb (nI i + 1) L := kx (c := 1) hi hL (by omega)
  rw [C_LAW_law_277]
  simp only [mm_C, mm_L, mm_I, CLx, LNx, CL0, ↓reduceIte]
  rw [if_pos k1]
  refine WI_mono (fun a M1 q => ?_) (s_now R _ hN)
  obtain ⟨I1, J1, e, hX1, hw⟩ := q
  subst e
  simp only [mm_C, mm_L, mm_I, CLx, LNx, CL248, ↓reduceIte]
  rw [if_pos k1, hX1, ← hX]
  exact WI_mono (fun b M3 q => by rw [if_pos (q.1)]; exact q.2) hw
theorem t_300 (hi : i + 5 ≤ L) (hL : L ≤ 320) (R : RLw xs I J ns ct ps im tx tr) (Q : Option Value → Mem → Prop) (hN : RKw L xs (fun M => Wn 12 i_LAW_law 18 [(0, .ref 1000000), (1, .ref 0), (2, .ref 248), (3, .int (nI i + 5))] [] M Q)) : Wn 12 i_LAW_law 300 [(0, .ref 1000000), (1, .ref 0), (2, .ref 248), (3, .int (nI i))] [] (mm L I J) Q := by
  have hX := R.2.2.1
  have k1 : rdI 17 ∧ inb (nI i + 1) L := kx (c := 1) hi hL (by omega)
  have k2 : rdI 17 ∧ inb (nI i + 2) L := kx (c := 2) hi hL (by omega)
  rw [C_LAW_law_300]
  simp only [mm_C, mm_L, mm_I, CLx, LNx, CL0, ↓reduceIte]
  rw [if_pos k1, if_pos k2]
  refine WI_mono (fun a M1 q => ?_) (s_ties R _ _ hN)
  obtain ⟨I1, J1, e, hX1, hw⟩ := q
  subst e
  simp only [mm_C, mm_L, mm_I, CLx, LNx, CL248, ↓reduceIte]
  rw [if_pos k1, if_pos k2, hX1, ← hX]
  exact WI_mono (fun b M3 q => by rw [if_pos (q.1)]; exact q.2) hw
theorem t_333 (hi : i + 5 ≤ L) (hL : L ≤ 320) (R : RLw xs I J ns ct ps im tx tr) (Q : Option Value → Mem → Prop) (hN : RKw L xs (fun M => Wn 12 i_LAW_law 18 [(0, .ref 1000000), (1, .ref 0), (2, .ref 248), (3, .int (nI i + 5))] [] M Q)) : Wn 12 i_LAW_law 333 [(0, .ref 1000000), (1, .ref 0), (2, .ref 248), (3, .int (nI i))] [] (mm L I J) Q := by
  have hX := R.2.2.1
  have k1 : rdI 17 ∧ inb (nI i + 1) L := kx (c := 1) hi hL (by omega)
  rw [C_LAW_law_333]
  simp only [mm_C, mm_L, mm_I, CLx, LNx, CL0, ↓reduceIte]
  rw [if_pos k1]
  refine WI_mono (fun a M1 q => ?_) (s_loosens R _ hN)
  obtain ⟨I1, J1, e, hX1, hw⟩ := q
  subst e
  simp only [mm_C, mm_L, mm_I, CLx, LNx, CL248, ↓reduceIte]
  rw [if_pos k1, hX1, ← hX]
  exact WI_mono (fun b M3 q => by rw [if_pos (q.1)]; exact q.2) hw
theorem t_356 (hi : i + 5 ≤ L) (hL : L ≤ 320) (R : RLw xs I J ns ct ps im tx tr) (Q : Option Value → Mem → Prop) (hN : RKw L xs (fun M => Wn 12 i_LAW_law 18 [(0, .ref 1000000), (1, .ref 0), (2, .ref 248), (3, .int (nI i + 5))] [] M Q)) : Wn 12 i_LAW_law 356 [(0, .ref 1000000), (1, .ref 0), (2, .ref 248), (3, .int (nI i))] [] (mm L I J) Q := by
  have hX := R.2.2.1
  have k1 : rdI 17 ∧ inb (nI i + 1) L := kx (c := 1) hi hL (by omega)
  have k2 : rdI 17 ∧ inb (nI i + 2) L := kx (c := 2) hi hL (by omega)
  rw [C_LAW_law_356]
  simp only [mm_C, mm_L, mm_I, CLx, LNx, CL0, ↓reduceIte]
  rw [if_pos k1, if_pos k2]
  refine WI_mono (fun a M1 q => ?_) (s_bends R _ _ hN)
  obtain ⟨I1, J1, e, hX1, hw⟩ := q
  subst e
  simp only [mm_C, mm_L, mm_I, CLx, LNx, CL248, ↓reduceIte]
  rw [if_pos k1, if_pos k2, hX1, ← hX]
  exact WI_mono (fun b M3 q => by rw [if_pos (q.1)]; exact q.2) hw
theorem t_389 (hi : i + 5 ≤ L) (hL : L ≤ 320) (R : RLw xs I J ns ct ps im tx tr) (Q : Option Value → Mem → Prop) (hN : RKw L xs (fun M => Wn 12 i_LAW_law 18 [(0, .ref 1000000), (1, .ref 0), (2, .ref 248), (3, .int (nI i + 5))] [] M Q)) : Wn 12 i_LAW_law 389 [(0, .ref 1000000), (1, .ref 0), (2, .ref 248), (3, .int (nI i))] [] (mm L I J) Q := by
  have hX := R.2.2.1
  have k1 : rdI 17 ∧ inb (nI i + 1) L := kx (c := 1) hi hL (by omega)
  rw [C_LAW_law_389]
  simp only [mm_C, mm_L, mm_I, CLx, LNx, CL0, ↓reduceIte]
  rw [if_pos k1]
  refine WI_mono (fun a M1 q => ?_) (s_unties R _ hN)
  obtain ⟨I1, J1, e, hX1, hw⟩ := q
  subst e
  simp only [mm_C, mm_L, mm_I, CLx, LNx, CL248, ↓reduceIte]
  rw [if_pos k1, hX1, ← hX]
  exact WI_mono (fun b M3 q => by rw [if_pos (q.1)]; exact q.2) hw
theorem t_412 (hi : i + 5 ≤ L) (hL : L ≤ 320) (R : RLw xs I J ns ct ps im tx tr) (Q : Option Value → Mem → Prop) (hN : RKw L xs (fun M => Wn 12 i_LAW_law 18 [(0, .ref 1000000), (1, .ref 0), (2, .ref 248), (3, .int (nI i + 5))] [] M Q)) : Wn 12 i_LAW_law 412 [(0, .ref 1000000), (1, .ref 0), (2, .ref 248), (3, .int (nI i))] [] (mm L I J) Q := by
  have hX := R.2.2.1
  have k1 : rdI 17 ∧ inb (nI i + 1) L := kx (c := 1) hi hL (by omega)
  rw [C_LAW_law_412]
  simp only [mm_C, mm_L, mm_I, CLx, LNx, CL0, ↓reduceIte]
  rw [if_pos k1]
  refine WI_mono (fun a M1 q => ?_) (s_adds R _ hN)
  obtain ⟨I1, J1, e, hX1, hw⟩ := q
  subst e
  simp only [mm_C, mm_L, mm_I, CLx, LNx, CL248, ↓reduceIte]
  rw [if_pos k1, hX1, ← hX]
  exact WI_mono (fun b M3 q => by rw [if_pos (q.1)]; exact q.2) hw
theorem t_435 (hi : i + 5 ≤ L) (hL : L ≤ 320) (R : RLw xs I J ns ct ps im tx tr) (Q : Option Value → Mem → Prop) (hN : RKw L xs (fun M => Wn 12 i_LAW_law 18 [(0, .ref 1000000), (1, .ref 0), (2, .ref 248), (3, .int (nI i + 5))] [] M Q)) : Wn 12 i_LAW_law 435 [(0, .ref 1000000), (1, .ref 0), (2, .ref 248), (3, .int (nI i))] [] (mm L I J) Q := by
  have hX := R.2.2.1
  rw [C_LAW_law_435]
  simp only [mm_C, mm_L, mm_I, CLx, LNx, CL0, ↓reduceIte]
  refine WI_mono (fun a M1 q => ?_) (s_tears R  hN)
  obtain ⟨I1, J1, e, hX1, hw⟩ := q
  subst e
  simp only [mm_C, mm_L, mm_I, CLx, LNx, CL248, ↓reduceIte]
  exact WI_mono (fun b M3 q => by rw [if_pos (q.1)]; exact q.2) hw
theorem t_448 (hi : i + 5 ≤ L) (hL : L ≤ 320) (R : RLw xs I J ns ct ps im tx tr) (Q : Option Value → Mem → Prop) (hN : RKw L xs (fun M => Wn 12 i_LAW_law 18 [(0, .ref 1000000), (1, .ref 0), (2, .ref 248), (3, .int (nI i + 5))] [] M Q)) : Wn 12 i_LAW_law 448 [(0, .ref 1000000), (1, .ref 0), (2, .ref 248), (3, .int (nI i))] [] (mm L I J) Q := by
  have hX := R.2.2.1
  rw [C_LAW_law_448]
  simp only [mm_C, mm_L, mm_I, CLx, LNx, CL0, ↓reduceIte]
  refine WI_mono (fun a M1 q => ?_) (s_undo R  hN)
  obtain ⟨I1, J1, e, hX1, hw⟩ := q
  subst e
  simp only [mm_C, mm_L, mm_I, CLx, LNx, CL248, ↓reduceIte]
  exact WI_mono (fun b M3 q => by rw [if_pos (q.1)]; exact q.2) hw
theorem t_461 (hi : i + 5 ≤ L) (hL : L ≤ 320) (R : RLw xs I J ns ct ps im tx tr) (Q : Option Value → Mem → Prop) (hN : RKw L xs (fun M => Wn 12 i_LAW_law 18 [(0, .ref 1000000), (1, .ref 0), (2, .ref 248), (3, .int (nI i + 5))] [] M Q)) : Wn 12 i_LAW_law 461 [(0, .ref 1000000), (1, .ref 0), (2, .ref 248), (3, .int (nI i))] [] (mm L I J) Q := by
  have hX := R.2.2.1
  have k1 : rdI 17 ∧ inb (nI i + 1) L := kx (c := 1) hi hL (by omega)
  rw [C_LAW_law_461]
  simp only [mm_C, mm_L, mm_I, CLx, LNx, CL0, ↓reduceIte]
  rw [if_pos k1]
  refine WI_mono (fun a M1 q => ?_) (s_alike R _ hN)
  obtain ⟨I1, J1, e, hX1, hw⟩ := q
  subst e
  simp only [mm_C, mm_L, mm_I, CLx, LNx, CL248, ↓reduceIte]
  rw [if_pos k1, hX1, ← hX]
  exact WI_mono (fun b M3 q => by rw [if_pos (q.1)]; exact q.2) hw
theorem t_484 (hi : i + 5 ≤ L) (hL : L ≤ 320) (R : RLw xs I J ns ct ps im tx tr) (Q : Option Value → Mem → Prop) (hN : RKw L xs (fun M => Wn 12 i_LAW_law 18 [(0, .ref 1000000), (1, .ref 0), (2, .ref 248), (3, .int (nI i + 5))] [] M Q)) : Wn 12 i_LAW_law 484 [(0, .ref 1000000), (1, .ref 0), (2, .ref 248), (3, .int (nI i))] [] (mm L I J) Q := by
  have hX := R.2.2.1
  have k1 : rdI 17 ∧ inb (nI i + 1) L := kx (c := 1) hi hL (by omega)
  rw [C_LAW_law_484]
  simp only [mm_C, mm_L, mm_I, CLx, LNx, CL0, ↓reduceIte]
  rw [if_pos k1]
  refine WI_mono (fun a M1 q => ?_) (s_ring R _ hN)
  obtain ⟨I1, J1, e, hX1, hw⟩ := q
  subst e
  simp only [mm_C, mm_L, mm_I, CLx, LNx, CL248, ↓reduceIte]
  rw [if_pos k1, hX1, ← hX]
  exact WI_mono (fun b M3 q => by rw [if_pos (q.1)]; exact q.2) hw
theorem t_507 (hi : i + 5 ≤ L) (hL : L ≤ 320) (R : RLw xs I J ns ct ps im tx tr) (Q : Option Value → Mem → Prop) (hN : RKw L xs (fun M => Wn 12 i_LAW_law 18 [(0, .ref 1000000), (1, .ref 0), (2, .ref 248), (3, .int (nI i + 5))] [] M Q)) : Wn 12 i_LAW_law 507 [(0, .ref 1000000), (1, .ref 0), (2, .ref 248), (3, .int (nI i))] [] (mm L I J) Q := by
  have hX := R.2.2.1
  have k1 : rdI 17 ∧ inb (nI i + 1) L := kx (c := 1) hi hL (by omega)
  have k2 : rdI 17 ∧ inb (nI i + 2) L := kx (c := 2) hi hL (by omega)
  rw [C_LAW_law_507]
  simp only [mm_C, mm_L, mm_I, CLx, LNx, CL0, ↓reduceIte]
  rw [if_pos k1, if_pos k2]
  refine WI_mono (fun a M1 q => ?_) (s_way R _ _ hN)
  obtain ⟨I1, J1, e, hX1, hw⟩ := q
  subst e
  simp only [mm_C, mm_L, mm_I, CLx, LNx, CL248, ↓reduceIte]
  rw [if_pos k1, if_pos k2, hX1, ← hX]
  exact WI_mono (fun b M3 q => by rw [if_pos (q.1)]; exact q.2) hw
theorem t_540 (hi : i + 5 ≤ L) (hL : L ≤ 320) (R : RLw xs I J ns ct ps im tx tr) (Q : Option Value → Mem → Prop) (hN : RKw L xs (fun M => Wn 12 i_LAW_law 18 [(0, .ref 1000000), (1, .ref 0), (2, .ref 248), (3, .int (nI i + 5))] [] M Q)) : Wn 12 i_LAW_law 540 [(0, .ref 1000000), (1, .ref 0), (2, .ref 248), (3, .int (nI i))] [] (mm L I J) Q := by
  have hX := R.2.2.1
  have k1 : rdI 17 ∧ inb (nI i + 1) L := kx (c := 1) hi hL (by omega)
  rw [C_LAW_law_540]
  simp only [mm_C, mm_L, mm_I, CLx, LNx, CL0, ↓reduceIte]
  rw [if_pos k1]
  refine WI_mono (fun a M1 q => ?_) (s_root R _ hN)
  obtain ⟨I1, J1, e, hX1, hw⟩ := q
  subst e
  simp only [mm_C, mm_L, mm_I, CLx, LNx, CL248, ↓reduceIte]
  rw [if_pos k1, hX1, ← hX]
  exact WI_mono (fun b M3 q => by rw [if_pos (q.1)]; exact q.2) hw
theorem t_563 (hi : i + 5 ≤ L) (hL : L ≤ 320) (R : RLw xs I J ns ct ps im tx tr) (Q : Option Value → Mem → Prop) (hN : RKw L xs (fun M => Wn 12 i_LAW_law 18 [(0, .ref 1000000), (1, .ref 0), (2, .ref 248), (3, .int (nI i + 5))] [] M Q)) : Wn 12 i_LAW_law 563 [(0, .ref 1000000), (1, .ref 0), (2, .ref 248), (3, .int (nI i))] [] (mm L I J) Q := by
  have hX := R.2.2.1
  have k1 : rdI 17 ∧ inb (nI i + 1) L := kx (c := 1) hi hL (by omega)
  rw [C_LAW_law_563]
  simp only [mm_C, mm_L, mm_I, CLx, LNx, CL0, ↓reduceIte]
  rw [if_pos k1]
  refine WI_mono (fun a M1 q => ?_) (s_order R _ hN)
  obtain ⟨I1, J1, e, hX1, hw⟩ := q
  subst e
  simp only [mm_C, mm_L, mm_I, CLx, LNx, CL248, ↓reduceIte]
  rw [if_pos k1, hX1, ← hX]
  exact WI_mono (fun b M3 q => by rw [if_pos (q.1)]; exact q.2) hw
theorem t_586 (hi : i + 5 ≤ L) (hL : L ≤ 320) (R : RLw xs I J ns ct ps im tx tr) (Q : Option Value → Mem → Prop) (hN : RKw L xs (fun M => Wn 12 i_LAW_law 18 [(0, .ref 1000000), (1, .ref 0), (2, .ref 248), (3, .int (nI i + 5))] [] M Q)) : Wn 12 i_LAW_law 586 [(0, .ref 1000000), (1, .ref 0), (2, .ref 248), (3, .int (nI i))] [] (mm L I J) Q := by
  have hX := R.2.2.1
  have k1 : rdI 17 ∧ inb (nI i + 1) L := kx (c := 1) hi hL (by omega)
  have k2 : rdI 17 ∧ inb (nI i + 2) L := kx (c := 2) hi hL (by omega)
  have k3 : rdI 17 ∧ inb (nI i + 3) L := kx (c := 3) hi hL (by omega)
  have k4 : rdI 17 ∧ inb (nI i + 4) L := kx (c := 4) hi hL (by omega)
  rw [C_LAW_law_586]
  simp only [mm_C, mm_L, mm_I, CLx, LNx, CL0, ↓reduceIte]
  rw [if_pos k1, if_pos k2, if_pos k3, if_pos k4]
  refine WL_mono (fun a M1 q => ?_) (s_cold R _ _ _ _ hN)
  obtain ⟨I1, J1, e, hX1, hw⟩ := q
  subst e
  simp only [mm_C, mm_L, mm_I, CLx, LNx, CL248, ↓reduceIte]
  rw [if_pos k1, if_pos k2, if_pos k3, if_pos k4, hX1, ← hX]
  exact WL_mono (fun b M3 q => by rw [if_pos ((lg_cmp_eq _ _).mpr q.1)]; exact q.2) hw
theorem t_640 (hi : i + 5 ≤ L) (hL : L ≤ 320) (R : RLw xs I J ns ct ps im tx tr) (Q : Option Value → Mem → Prop) (hN : RKw L xs (fun M => Wn 12 i_LAW_law 18 [(0, .ref 1000000), (1, .ref 0), (2, .ref 248), (3, .int (nI i + 5))] [] M Q)) : Wn 12 i_LAW_law 640 [(0, .ref 1000000), (1, .ref 0), (2, .ref 248), (3, .int (nI i))] [] (mm L I J) Q := by
  have hX := R.2.2.1
  have k1 : rdI 17 ∧ inb (nI i + 1) L := kx (c := 1) hi hL (by omega)
  have k2 : rdI 17 ∧ inb (nI i + 2) L := kx (c := 2) hi hL (by omega)
  rw [C_LAW_law_640]
  simp only [mm_C, mm_L, mm_I, CLx, LNx, CL0, ↓reduceIte]
  rw [if_pos k1, if_pos k2]
  refine WI_mono (fun a M1 q => ?_) (s_mixed R _ _ hN)
  obtain ⟨I1, J1, e, hX1, hw⟩ := q
  subst e
  simp only [mm_C, mm_L, mm_I, CLx, LNx, CL248, ↓reduceIte]
  rw [if_pos k1, if_pos k2, hX1, ← hX]
  exact WI_mono (fun b M3 q => by rw [if_pos (q.1)]; exact q.2) hw
theorem t_673 (hi : i + 5 ≤ L) (hL : L ≤ 320) (R : RLw xs I J ns ct ps im tx tr) (Q : Option Value → Mem → Prop) (hN : RKw L xs (fun M => Wn 12 i_LAW_law 18 [(0, .ref 1000000), (1, .ref 0), (2, .ref 248), (3, .int (nI i + 5))] [] M Q)) : Wn 12 i_LAW_law 673 [(0, .ref 1000000), (1, .ref 0), (2, .ref 248), (3, .int (nI i))] [] (mm L I J) Q := by
  have hX := R.2.2.1
  have k1 : rdI 17 ∧ inb (nI i + 1) L := kx (c := 1) hi hL (by omega)
  have k2 : rdI 17 ∧ inb (nI i + 2) L := kx (c := 2) hi hL (by omega)
  have k3 : rdI 17 ∧ inb (nI i + 3) L := kx (c := 3) hi hL (by omega)
  rw [C_LAW_law_673]
  simp only [mm_C, mm_L, mm_I, CLx, LNx, CL0, ↓reduceIte]
  rw [if_pos k1, if_pos k2, if_pos k3]
  refine WI_mono (fun a M1 q => ?_) (s_newName R _ _ _ hN)
  obtain ⟨I1, J1, e, hX1, hw⟩ := q
  subst e
  simp only [mm_C, mm_L, mm_I, CLx, LNx, CL248, ↓reduceIte]
  rw [if_pos k1, if_pos k2, if_pos k3, hX1, ← hX]
  exact WI_mono (fun b M3 q => by rw [if_pos (q.1)]; exact q.2) hw
theorem t_716 (hi : i + 5 ≤ L) (hL : L ≤ 320) (R : RLw xs I J ns ct ps im tx tr) (Q : Option Value → Mem → Prop) (hN : RKw L xs (fun M => Wn 12 i_LAW_law 18 [(0, .ref 1000000), (1, .ref 0), (2, .ref 248), (3, .int (nI i + 5))] [] M Q)) : Wn 12 i_LAW_law 716 [(0, .ref 1000000), (1, .ref 0), (2, .ref 248), (3, .int (nI i))] [] (mm L I J) Q := by
  have hX := R.2.2.1
  have k1 : rdI 17 ∧ inb (nI i + 1) L := kx (c := 1) hi hL (by omega)
  rw [C_LAW_law_716]
  simp only [mm_C, mm_L, mm_I, CLx, LNx, CL0, ↓reduceIte]
  rw [if_pos k1]
  refine WI_mono (fun a M1 q => ?_) (s_pulls R _ hN)
  obtain ⟨I1, J1, e, hX1, hw⟩ := q
  subst e
  simp only [mm_C, mm_L, mm_I, CLx, LNx, CL248, ↓reduceIte]
  rw [if_pos k1, hX1, ← hX]
  exact WI_mono (fun b M3 q => by rw [if_pos (q.1)]; exact q.2) hw
theorem t_739 (hi : i + 5 ≤ L) (hL : L ≤ 320) (R : RLw xs I J ns ct ps im tx tr) (Q : Option Value → Mem → Prop) (hN : RKw L xs (fun M => Wn 12 i_LAW_law 18 [(0, .ref 1000000), (1, .ref 0), (2, .ref 248), (3, .int (nI i + 5))] [] M Q)) : Wn 12 i_LAW_law 739 [(0, .ref 1000000), (1, .ref 0), (2, .ref 248), (3, .int (nI i))] [] (mm L I J) Q := by
  have hX := R.2.2.1
  have k1 : rdI 17 ∧ inb (nI i + 1) L := kx (c := 1) hi hL (by omega)
  rw [C_LAW_law_739]
  simp only [mm_C, mm_L, mm_I, CLx, LNx, CL0, ↓reduceIte]
  rw [if_pos k1]
  refine WI_mono (fun a M1 q => ?_) (s_lives R _ hN)
  obtain ⟨I1, J1, e, hX1, hw⟩ := q
  subst e
  simp only [mm_C, mm_L, mm_I, CLx, LNx, CL248, ↓reduceIte]
  rw [if_pos k1, hX1, ← hX]
  exact WI_mono (fun b M3 q => by rw [if_pos (q.1)]; exact q.2) hw
theorem t_762 (hi : i + 5 ≤ L) (hL : L ≤ 320) (R : RLw xs I J ns ct ps im tx tr) (Q : Option Value → Mem → Prop) (hN : RKw L xs (fun M => Wn 12 i_LAW_law 18 [(0, .ref 1000000), (1, .ref 0), (2, .ref 248), (3, .int (nI i + 5))] [] M Q)) : Wn 12 i_LAW_law 762 [(0, .ref 1000000), (1, .ref 0), (2, .ref 248), (3, .int (nI i))] [] (mm L I J) Q := by
  have hX := R.2.2.1
  rw [C_LAW_law_762]
  simp only [mm_C, mm_L, mm_I, CLx, LNx, CL0, ↓reduceIte]
  refine WI_mono (fun a M1 q => ?_) (s_next R  hN)
  obtain ⟨I1, J1, e, hX1, hw⟩ := q
  subst e
  simp only [mm_C, mm_L, mm_I, CLx, LNx, CL248, ↓reduceIte]
  exact WI_mono (fun b M3 q => by rw [if_pos (q.1)]; exact q.2) hw
theorem t_775 (hi : i + 5 ≤ L) (hL : L ≤ 320) (R : RLw xs I J ns ct ps im tx tr) (Q : Option Value → Mem → Prop) (hN : RKw L xs (fun M => Wn 12 i_LAW_law 18 [(0, .ref 1000000), (1, .ref 0), (2, .ref 248), (3, .int (nI i + 5))] [] M Q)) : Wn 12 i_LAW_law 775 [(0, .ref 1000000), (1, .ref 0), (2, .ref 248), (3, .int (nI i))] [] (mm L I J) Q := by
  have hX := R.2.2.1
  have k1 : rdI 17 ∧ inb (nI i + 1) L := kx (c := 1) hi hL (by omega)
  have k2 : rdI 17 ∧ inb (nI i + 2) L := kx (c := 2) hi hL (by omega)
  have k3 : rdI 17 ∧ inb (nI i + 3) L := kx (c := 3) hi hL (by omega)
  have k4 : rdI 17 ∧ inb (nI i + 4) L := kx (c := 4) hi hL (by omega)
  rw [C_LAW_law_775]
  simp only [mm_C, mm_L, mm_I, CLx, LNx, CL0, ↓reduceIte]
  rw [if_pos k1, if_pos k2, if_pos k3, if_pos k4]
  refine WI_mono (fun a M1 q => ?_) (s_porridge R _ _ _ _ hN)
  obtain ⟨I1, J1, e, hX1, hw⟩ := q
  subst e
  simp only [mm_C, mm_L, mm_I, CLx, LNx, CL248, ↓reduceIte]
  rw [if_pos k1, if_pos k2, if_pos k3, if_pos k4, hX1, ← hX]
  exact WI_mono (fun b M3 q => by rw [if_pos (q.1)]; exact q.2) hw
theorem t_828 (hi : i + 5 ≤ L) (hL : L ≤ 320) (R : RLw xs I J ns ct ps im tx tr) (Q : Option Value → Mem → Prop) (hN : RKw L xs (fun M => Wn 12 i_LAW_law 18 [(0, .ref 1000000), (1, .ref 0), (2, .ref 248), (3, .int (nI i + 5))] [] M Q)) : Wn 12 i_LAW_law 828 [(0, .ref 1000000), (1, .ref 0), (2, .ref 248), (3, .int (nI i))] [] (mm L I J) Q := by
  have hX := R.2.2.1
  have k1 : rdI 17 ∧ inb (nI i + 1) L := kx (c := 1) hi hL (by omega)
  have k2 : rdI 17 ∧ inb (nI i + 2) L := kx (c := 2) hi hL (by omega)
  rw [C_LAW_law_828]
  simp only [mm_C, mm_L, mm_I, CLx, LNx, CL0, ↓reduceIte]
  rw [if_pos k1, if_pos k2]
  refine WI_mono (fun a M1 q => ?_) (s_share R _ _ hN)
  obtain ⟨I1, J1, e, hX1, hw⟩ := q
  subst e
  simp only [mm_C, mm_L, mm_I, CLx, LNx, CL248, ↓reduceIte]
  rw [if_pos k1, if_pos k2, hX1, ← hX]
  exact WI_mono (fun b M3 q => by rw [if_pos (q.1)]; exact q.2) hw
theorem t_861 (hi : i + 5 ≤ L) (hL : L ≤ 320) (R : RLw xs I J ns ct ps im tx tr) (Q : Option Value → Mem → Prop) (hN : RKw L xs (fun M => Wn 12 i_LAW_law 18 [(0, .ref 1000000), (1, .ref 0), (2, .ref 248), (3, .int (nI i + 5))] [] M Q)) : Wn 12 i_LAW_law 861 [(0, .ref 1000000), (1, .ref 0), (2, .ref 248), (3, .int (nI i))] [] (mm L I J) Q := by
  have hX := R.2.2.1
  have k1 : rdI 17 ∧ inb (nI i + 1) L := kx (c := 1) hi hL (by omega)
  have k2 : rdI 17 ∧ inb (nI i + 2) L := kx (c := 2) hi hL (by omega)
  rw [C_LAW_law_861]
  simp only [mm_C, mm_L, mm_I, CLx, LNx, CL0, ↓reduceIte]
  rw [if_pos k1, if_pos k2]
  refine WI_mono (fun a M1 q => ?_) (s_rate R _ _ hN)
  obtain ⟨I1, J1, e, hX1, hw⟩ := q
  subst e
  simp only [mm_C, mm_L, mm_I, CLx, LNx, CL248, ↓reduceIte]
  rw [if_pos k1, if_pos k2, hX1, ← hX]
  exact WI_mono (fun b M3 q => by rw [if_pos (q.1)]; exact q.2) hw
theorem t_894 (hi : i + 5 ≤ L) (hL : L ≤ 320) (R : RLw xs I J ns ct ps im tx tr) (Q : Option Value → Mem → Prop) (hN : RKw L xs (fun M => Wn 12 i_LAW_law 18 [(0, .ref 1000000), (1, .ref 0), (2, .ref 248), (3, .int (nI i + 5))] [] M Q)) : Wn 12 i_LAW_law 894 [(0, .ref 1000000), (1, .ref 0), (2, .ref 248), (3, .int (nI i))] [] (mm L I J) Q := by
  have hX := R.2.2.1
  have k1 : rdI 17 ∧ inb (nI i + 1) L := kx (c := 1) hi hL (by omega)
  rw [C_LAW_law_894]
  simp only [mm_C, mm_L, mm_I, CLx, LNx, CL0, ↓reduceIte]
  rw [if_pos k1]
  refine WI_mono (fun a M1 q => ?_) (s_keep R _ hN)
  obtain ⟨I1, J1, e, hX1, hw⟩ := q
  subst e
  simp only [mm_C, mm_L, mm_I, CLx, LNx, CL248, ↓reduceIte]
  rw [if_pos k1, hX1, ← hX]
  exact WI_mono (fun b M3 q => by rw [if_pos (q.1)]; exact q.2) hw
theorem t_917 (hi : i + 5 ≤ L) (hL : L ≤ 320) (R : RLw xs I J ns ct ps im tx tr) (Q : Option Value → Mem → Prop) (hN : RKw L xs (fun M => Wn 12 i_LAW_law 18 [(0, .ref 1000000), (1, .ref 0), (2, .ref 248), (3, .int (nI i + 5))] [] M Q)) : Wn 12 i_LAW_law 917 [(0, .ref 1000000), (1, .ref 0), (2, .ref 248), (3, .int (nI i))] [] (mm L I J) Q := by
  have hX := R.2.2.1
  have k1 : rdI 17 ∧ inb (nI i + 1) L := kx (c := 1) hi hL (by omega)
  rw [C_LAW_law_917]
  simp only [mm_C, mm_L, mm_I, CLx, LNx, CL0, ↓reduceIte]
  rw [if_pos k1]
  refine WI_mono (fun a M1 q => ?_) (s_back R _ hN)
  obtain ⟨I1, J1, e, hX1, hw⟩ := q
  subst e
  simp only [mm_C, mm_L, mm_I, CLx, LNx, CL248, ↓reduceIte]
  rw [if_pos k1, hX1, ← hX]
  exact WI_mono (fun b M3 q => by rw [if_pos (q.1)]; exact q.2) hw
theorem t_940 (hi : i + 5 ≤ L) (hL : L ≤ 320) (R : RLw xs I J ns ct ps im tx tr) (Q : Option Value → Mem → Prop) (hN : RKw L xs (fun M => Wn 12 i_LAW_law 18 [(0, .ref 1000000), (1, .ref 0), (2, .ref 248), (3, .int (nI i + 5))] [] M Q)) : Wn 12 i_LAW_law 940 [(0, .ref 1000000), (1, .ref 0), (2, .ref 248), (3, .int (nI i))] [] (mm L I J) Q := by
  have hX := R.2.2.1
  have k1 : rdI 17 ∧ inb (nI i + 1) L := kx (c := 1) hi hL (by omega)
  rw [C_LAW_law_940]
  simp only [mm_C, mm_L, mm_I, CLx, LNx, CL0, ↓reduceIte]
  rw [if_pos k1]
  refine WI_mono (fun a M1 q => ?_) (s_count R _ hN)
  obtain ⟨I1, J1, e, hX1, hw⟩ := q
  subst e
  simp only [mm_C, mm_L, mm_I, CLx, LNx, CL248, ↓reduceIte]
  rw [if_pos k1, hX1, ← hX]
  exact WI_mono (fun b M3 q => by rw [if_pos (q.1)]; exact q.2) hw
theorem t_963 (hi : i + 5 ≤ L) (hL : L ≤ 320) (R : RLw xs I J ns ct ps im tx tr) (Q : Option Value → Mem → Prop) (hN : RKw L xs (fun M => Wn 12 i_LAW_law 18 [(0, .ref 1000000), (1, .ref 0), (2, .ref 248), (3, .int (nI i + 5))] [] M Q)) : Wn 12 i_LAW_law 963 [(0, .ref 1000000), (1, .ref 0), (2, .ref 248), (3, .int (nI i))] [] (mm L I J) Q := by
  have hX := R.2.2.1
  rw [C_LAW_law_963]
  simp only [mm_C, mm_L, mm_I, CLx, LNx, CL0, ↓reduceIte]
  refine WL_mono (fun a M1 q => ?_) (s_trace R  hN)
  obtain ⟨I1, J1, e, hX1, hw⟩ := q
  subst e
  simp only [mm_C, mm_L, mm_I, CLx, LNx, CL248, ↓reduceIte]
  exact WL_mono (fun b M3 q => by rw [if_pos ((lg_cmp_eq _ _).mpr q.1)]; exact q.2) hw
end LAWC
section LAWL
variable {L : Nat} {xs : Nat → Int32}
theorem law_end {i : Nat} (hL : L ≤ 320) (hi : i ≤ 400) : (nI L - 5 < nI i) = (L < i + 5) := by
  apply propext
  have e5 : (5 : Int32) = nI 5 := by decide
  rw [Int32.lt_iff_toInt_lt, e5, pk_sub_toInt (by omega) (by omega), nI_toInt (by omega)]
  omega
theorem law_loop (hL : L ≤ 320) : ∀ (r i : Nat) (I : Nat → Nat → Int32) (J : Nat → Nat → Int64) (ns : List (List Nat)) (ct : List Nat) (ps : List Cp) (im : Nat → Option Cp) (tx : List Nat) (tr : Int64), L ≤ i + r → i ≤ 330 → RLw xs I J ns ct ps im tx tr → Wn 12 i_LAW_law 18 [(0, .ref 1000000), (1, .ref 0), (2, .ref 248), (3, .int (nI i))] [] (mm L I J) (fun v M => v = some (.int 1) ∧ ∃ I J, M = mm L I J) := by
  intro r
  induction r with
  | zero =>
    intro i I J ns ct ps im tx tr hr hi R
    have a17 : isA 17 := by decide
    rw [H_LAW_law_18, mm_C, CLx, if_pos a17, mm_L, LNx, if_pos (by rw [law_end hL (by omega)]; omega)]
    exact ⟨rfl, I, J, rfl⟩
  | succ r ih =>
    intro i I J ns ct ps im tx tr hr hi R
    have a17 : isA 17 := by decide
    rw [H_LAW_law_18, mm_C, CLx, if_pos a17, mm_L, LNx]
    by_cases c : L < i + 5
    · rw [if_pos (by rw [law_end hL (by omega)]; exact c)]
      exact ⟨rfl, I, J, rfl⟩
    · have hi5 : i + 5 ≤ L := by omega
      rw [if_neg (by rw [law_end hL (by omega)]; exact c), if_pos ⟨by decide, inb_nI (by omega) (by omega)⟩]
      have e5 : nI i + 5 = nI (i + 5) := nI_add i 5
      have hN : RKw L xs (fun M => Wn 12 i_LAW_law 18 [(0, .ref 1000000), (1, .ref 0), (2, .ref 248), (3, .int (nI i + 5))] [] M (fun v M => v = some (.int 1) ∧ ∃ I J, M = mm L I J)) := fun I' J' ns' ct' ps' im' tx' tr' R' => by
        rw [e5]
        exact ih (i + 5) I' J' ns' ct' ps' im' tx' tr' (by omega) (by omega) R'
      exact (ite_i (t_172 hi5 hL R _ hN) (ite_i (t_195 hi5 hL R _ hN) (ite_i (t_208 hi5 hL R _ hN) (ite_i (t_221 hi5 hL R _ hN) (ite_i (t_254 hi5 hL R _ hN) (ite_i (t_277 hi5 hL R _ hN) (ite_i (t_300 hi5 hL R _ hN) (ite_i (t_333 hi5 hL R _ hN) (ite_i (t_356 hi5 hL R _ hN) (ite_i (t_389 hi5 hL R _ hN) (ite_i (t_412 hi5 hL R _ hN) (ite_i (t_435 hi5 hL R _ hN) (ite_i (t_448 hi5 hL R _ hN) (ite_i (t_461 hi5 hL R _ hN) (ite_i (t_484 hi5 hL R _ hN) (ite_i (t_507 hi5 hL R _ hN) (ite_i (t_540 hi5 hL R _ hN) (ite_i (t_563 hi5 hL R _ hN) (ite_i (t_586 hi5 hL R _ hN) (ite_i (t_640 hi5 hL R _ hN) (ite_i (t_673 hi5 hL R _ hN) (ite_i (t_716 hi5 hL R _ hN) (ite_i (t_739 hi5 hL R _ hN) (ite_i (t_762 hi5 hL R _ hN) (ite_i (t_775 hi5 hL R _ hN) (ite_i (t_828 hi5 hL R _ hN) (ite_i (t_861 hi5 hL R _ hN) (ite_i (t_894 hi5 hL R _ hN) (ite_i (t_917 hi5 hL R _ hN) (ite_i (t_940 hi5 hL R _ hN) (ite_i (t_963 hi5 hL R _ hN) ((C_LAW_law_977 11 1000000 0 248 (nI i) (mm L I J) _).mpr (hN _ _ _ _ _ _ _ _ R)))))))))))))))))))))))))))))))))
theorem init_RL : RLw xs (I0 xs) J0 [] [] [] (fun _ => none) [] 0 := by
  have z : ∀ a k, a ≠ 1000000 → a ≠ 1000002 → I0 xs a k = 0 := fun a k h1 h2 => by unfold I0; rw [if_neg h1, if_neg h2]
  have b : ∀ k, I0 xs 1000002 k = byU.getD k 0 := fun k => by unfold I0; rw [if_neg (by omega), if_pos rfl]
  have rl : ∀ r, r < 300 → Rl (I0 xs) r [] := fun r hr => ⟨z r 1 (by omega) (by omega), fun k hk => absurd hk (Nat.not_lt_zero k), fun x hx => by cases hx⟩
  refine ⟨⟨⟨z 3 2 (by omega) (by omega), Nat.zero_le _, fun h hh => absurd hh (Nat.not_lt_zero h), rl _ (by omega), Nat.zero_le _⟩, ⟨0, z 19 1 (by omega) (by omega), by omega, z 19 2 (by omega) (by omega), Nat.zero_le _, fun i hi => absurd hi (Nat.not_lt_zero i)⟩, ⟨z 1 1 (by omega) (by omega), Nat.zero_le _, fun k hk => absurd hk (Nat.not_lt_zero k)⟩, ⟨z _ _ (by omega) (by omega), by rw [b]; decide, by rw [b]; decide, by rw [b]; decide, by rw [b]; decide, by rw [b]; decide, by rw [b]; decide⟩, fun m hm => ⟨z _ _ (by omega) (by omega), (fun p hp => by cases hp)⟩, rfl⟩, ⟨z 248 0 (by omega) (by omega), ⟨z 249 0 (by omega) (by omega), Nat.zero_le _, ⟨fun k hk => absurd hk (Nat.not_lt_zero k), (fun x hx => by cases hx)⟩, Nat.zero_le _, fun h hh => absurd hh (Nat.not_lt_zero h)⟩, ⟨z 248 3 (by omega) (by omega), Nat.zero_le _, fun i hi => absurd hi (Nat.not_lt_zero i)⟩, fun m hm => ⟨z _ _ (by omega) (by omega), (fun p hp => by cases hp)⟩, ⟨z 248 7 (by omega) (by omega), Nat.zero_le _, fun k hk => absurd hk (Nat.not_lt_zero k)⟩, rfl⟩, ?_, fun h => Tg_nil, (fun p hp => by cases hp), (fun m p hp => by cases hp)⟩
  funext k
  unfold I0
  rw [if_pos rfl]
end LAWL
/-- the one pure statement -/
theorem lawLoop : LawLoop := fun L xs hL => law_loop hL L 0 (I0 xs) J0 [] [] [] (fun _ => none) [] 0 (by omega) (by omega) init_RL
