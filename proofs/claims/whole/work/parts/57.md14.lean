theorem CL253 : CL 253 = 10 := by decide
theorem RR248_6 : RR 248 6 = 253 := by decide
theorem n253 : ¬ (253 : Nat) = 999999 := by decide
theorem LN253 (L : Nat) : LN L 253 = 200 := rfl
/-- a frame for the model: cells 248 .. 261 may change -/
theorem Ml_fr {I I' : Nat → Nat → Int32} {a o : Nat} {ns : List (List Nat)} {ct : List Nat} (hF : I' a = I a) (h : Ml I a o ns ct) : Ml I' a o ns ct := by
  unfold Ml Sg at h ⊢
  rw [hF]
  exact h
theorem ImM_fr {I I' : Nat → Nat → Int32} {im : Nat → Option Cp} (h1 : I' 252 = I 252) (h2 : I' 251 = I 251) (h : ImM I im) : ImM I' im := by
  intro m hm
  rw [h1]
  exact ⟨(h m hm).1, fun p hp => Ml_fr h2 ((h m hm).2 p hp)⟩
theorem PmR_fr {I I' : Nat → Nat → Int32} {ps : List Cp} (h1 : I' 248 3 = I 248 3) (h2 : I' 250 = I 250) (h : PmR I ps) : PmR I' ps := ⟨by rw [h1]; exact h.1, h.2.1, fun i hi => Ml_fr h2 (h.2.2 i hi)⟩
theorem TxM_fr {I I' : Nat → Nat → Int32} {tx : List Nat} (h1 : I' 248 7 = I 248 7) (h2 : I' 253 = I 253) (h : TxM I tx) : TxM I' tx := ⟨by rw [h1]; exact h.1, h.2.1, fun k hk => by rw [h2]; exact h.2.2 k hk⟩
section MD14
variable {d L : Nat} {I : Nat → Nat → Int32} {J : Nat → Nat → Int64} {ns : List (List Nat)} {ct : List Nat} {ps : List Cp} {im : Nat → Option Cp} {tx : List Nat} {tr : Int64}
theorem m_contract (h : MdR I J ns ct ps im tx tr) (y : Int32) (Q : Int32 → Mem → Prop) : WI (d + 1) i_MD_contract [.ref 248, .int y] (mm L I J) Q ↔ Q (lot ct y) (mm L I J) := by
  obtain ⟨a1, a2, a3, a4, a5⟩ := h.2.1
  have ok0 : rdI 10 ∧ inb 0 91 := by decide
  have z : I 249 (Int32.toNatClampNeg 0) = nI ct.length := a1
  rw [E_MD_contract, qm1]
  simp only [mm_C, mm_R, mm_L, mm_I, CL248, CL249, RR248_1, n249, LN249, ↓reduceIte]
  rw [if_pos ok0, z, m_in]
  rcases lot_3 ct a2 y with ⟨b1, b2, b3⟩ | ⟨k, k1, k2, k3, k4⟩ | ⟨b2, b3⟩
  · rw [b3, b2, if_neg (by decide), if_pos (by rw [b1]; decide)]
    simp only [mm_C, mm_R, mm_L, mm_I, CL248, CL249, RR248_1, n249, LN249, ↓reduceIte]
    rw [if_pos ok0, z]
  · have b := a3.1 k k1
    rw [Nat.zero_add] at b
    have e1 : (1 : Int32) + nI k = nI (1 + k) := nI_add 1 k
    rw [k4, k3, if_neg (by decide), k2, if_neg (nI_nn (by omega)), e1]
    simp only [mm_C, mm_R, mm_L, mm_I, CL248, CL249, RR248_1, n249, LN249, ↓reduceIte]
    rw [if_pos ⟨by decide, inb_nI (by omega) (by omega)⟩, ix_nI (by omega), b]
  · rw [b3, b2, if_pos (by rfl)]
theorem m_typeN (x : Int32) (hx : x < 0 ∨ 255 < x) (M : Mem) (Q : Int32 → Mem → Prop) : WI (d + 1) i_MD_type [.ref 248, .int x] M Q ↔ Q (-1) M := by
  rw [E_MD_type, q0, q255, m_in, nw_12 hx, if_pos (by rfl)]
theorem m_typeF (h : MdR I J ns ct ps im tx tr) {q : Nat} (hq : q < 256) (hl : tx.length = 200) (Q : Int32 → Mem → Prop) : WI (d + 1) i_MD_type [.ref 248, .int (nI q)] (mm L I J) Q ↔ Q (-3) (mm L I J) := by
  rw [E_MD_type, q0, q255, m_in, c255 hq, if_neg (by decide), mm_C, if_pos CL248, mm_I, h.2.2.2.2.1.1, hl, if_pos (by decide)]
theorem m_typeY (h : MdR I J ns ct ps im tx tr) {q : Nat} (hq : q < 256) (hl : tx.length < 200) (Q : Int32 → Mem → Prop) (hQ : ∀ I', MdR I' J ns ct ps im (tx ++ [q]) tr → FrR 248 262 I I' → Q (nI (tx.length + 1)) (mm L I' J)) : WI (d + 1) i_MD_type [.ref 248, .int (nI q)] (mm L I J) Q := by
  obtain ⟨a1, a2, a3, a4, a5, a6⟩ := id h
  have e : ¬ nI tx.length = nI 200 := fun c => by have := (nI_eq (by omega) (by omega)).mp c; omega
  have e : ¬ nI tx.length = 200 := e
  have u : up2 I 253 tx.length (nI q) 248 7 = nI tx.length := by rw [up2_ne _ _ _ (by omega)]; exact a5.1
  rw [E_MD_type, q0, q255, m_in, c255 hq, if_neg (by decide)]
  simp only [mm_C, mm_R, mm_L, mm_I, mm_sI, CL248, CL253, RR248_6, n253, LN253, ↓reduceIte, a5.1]
  rw [if_neg e, if_pos ⟨trivial, inb_nI (by omega) (by omega)⟩, ix_nI (by omega), up2_same, u, nI_1]
  have hF : FrR 248 262 I (up2 (up2 I 253 tx.length (nI q)) 248 7 (nI (tx.length + 1))) := FrR_tr (FrR_u (by omega) (by omega)) (FrR_u (by omega) (by omega))
  have k1 : ∀ a, a ≠ 248 → a ≠ 253 → up2 (up2 I 253 tx.length (nI q)) 248 7 (nI (tx.length + 1)) a = I a := fun a p r => by rw [up2_ne _ _ _ p, up2_ne _ _ _ r]
  have k2 : ∀ k, k ≠ 7 → up2 (up2 I 253 tx.length (nI q)) 248 7 (nI (tx.length + 1)) 248 k = I 248 k := fun k p => by rw [up2_other _ _ _ p, up2_ne _ _ _ (by omega)]
  refine hQ _ ⟨by rw [k2 0 (by omega)]; exact a1, Ml_fr (k1 249 (by omega) (by omega)) a2, PmR_fr (k2 3 (by omega)) (k1 250 (by omega) (by omega)) a3, ImM_fr (k1 252 (by omega) (by omega)) (k1 251 (by omega) (by omega)) a4, ⟨?_, ?_, fun k hk => ?_⟩, a6⟩ hF
  · rw [up2_same, List.length_append]
    rfl
  · rw [List.length_append, List.length_singleton]
    omega
  · rw [List.length_append, List.length_singleton] at hk
    rw [up2_ne _ _ _ (by omega)]
    by_cases e2 : k = tx.length
    · rw [e2, up2_same, getD_end]
      exact ⟨rfl, hq⟩
    · rw [up2_other _ _ _ e2, getD_app (by omega)]
      exact a5.2.2 k (by omega)
end MD14
