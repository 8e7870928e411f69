theorem CL248 : CL 248 = 7 := by decide
theorem CL249 : CL 249 = 10 := by decide
theorem CL254 : CL 254 = 10 := by decide
theorem RR248_1 : RR 248 1 = 249 := by decide
theorem RR248_9 : RR 248 9 = 254 := by decide
theorem n249 : ¬ (249 : Nat) = 999999 := by decide
theorem n254 : ¬ (254 : Nat) = 999999 := by decide
theorem LN249 (L : Nat) : LN L 249 = 91 := rfl
theorem LN254 (L : Nat) : LN L 254 = 72 := rfl
/-- the model's cord holds l -/
def Cd (I : Nat → Nat → Int32) (l : List Nat) : Prop := I 248 10 = nI l.length ∧ (∀ k, k < l.length → I 254 k = nI (l.getD k 0)) ∧ ∀ x ∈ l, x < 6
/-- only the cord changes -/
def FrK (I I' : Nat → Nat → Int32) : Prop := (∀ a, a ≠ 248 → a ≠ 254 → I' a = I a) ∧ ∀ k, k ≠ 10 → I' 248 k = I 248 k
theorem FrK_rf (I : Nat → Nat → Int32) : FrK I I := ⟨fun _ _ _ => rfl, fun _ _ => rfl⟩
theorem FrK_tr {I I' I'' : Nat → Nat → Int32} (h : FrK I I') (h2 : FrK I' I'') : FrK I I'' := ⟨fun a p q => (h2.1 a p q).trans (h.1 a p q), fun k p => (h2.2 k p).trans (h.2 k p)⟩
section MD2
variable {d L : Nat} {I : Nat → Nat → Int32} {J : Nat → Nat → Int64} {l : List Nat}
theorem m_tie_app (hl : Cd I l) (hc : l.length < 72) {t : Nat} (ht : t < 6) : Cd (up2 (up2 I 254 l.length (nI t)) 248 10 (nI (l.length + 1))) (l ++ [t]) ∧ FrK I (up2 (up2 I 254 l.length (nI t)) 248 10 (nI (l.length + 1))) := by
  refine ⟨⟨?_, fun k hk => ?_, ?_⟩, fun a h1 h2 => ?_, fun k hk => ?_⟩
  · rw [up2_same, List.length_append]
    rfl
  · rw [List.length_append, List.length_singleton] at hk
    rw [up2_ne _ _ _ (by omega)]
    by_cases e : k = l.length
    · rw [e, up2_same, getD_end]
    · rw [up2_other _ _ _ e, getD_app (by omega), hl.2.1 k (by omega)]
  · intro x hx
    rcases List.mem_append.mp hx with q | q
    · exact hl.2.2 x q
    · rw [List.mem_singleton.mp q]; exact ht
  · rw [up2_ne _ _ _ h1, up2_ne _ _ _ h2]
  · rw [up2_other _ _ _ hk, up2_ne _ _ _ (by omega)]
theorem m_tie (hl : Cd I l) (hc : l.length < 72) {t : Nat} (ht : t < 6) (Q : Mem → Prop) (h : ∀ I', Cd I' (tie l t) → FrK I I' → Q (mm L I' J)) : WV d i_MD_tie [.ref 248, .int (nI t)] (mm L I J) Q := by
  have z : ¬ (1 : Int32) = 0 := by decide
  have u : ∀ v : Int32, up2 I 254 l.length v 248 10 = nI l.length := fun v => by rw [up2_ne _ _ _ (by omega)]; exact hl.1
  rw [E_MD_tie]
  simp only [mm_C, mm_R, mm_L, mm_I, mm_sI, CL248, CL254, RR248_9, n254, LN254, ↓reduceIte, hl.1, z]
  by_cases h0 : 0 < l.length
  · have hp : (0 : Int32) < nI l.length := nI_lt h0 (by omega)
    have h6 : l.getD (l.length - 1) 0 < 6 := by
      apply hl.2.2
      rw [List.getD_eq_getElem?_getD, List.getElem?_eq_getElem (by omega)]
      exact List.getElem_mem _
    have h7 := x1_lt ht
    rw [if_pos hp, nI_m1 h0, if_pos ⟨by decide, inb_nI (by omega) (by omega)⟩, ix_nI (by omega), hl.2.1 _ (by omega), nI_x1 ht]
    by_cases e : l.getD (l.length - 1) 0 = t ^^^ 1
    · rw [if_pos (by rw [e])]
      have et : tie l t = l.dropLast := by unfold tie; rw [last_getD h0, e, if_pos rfl]
      rw [et] at h
      have ed : nI l.length + (-1) = nI (l.length - 1) := by
        have := nI_dec (l.length - 1)
        rw [show l.length - 1 + 1 = l.length by omega] at this
        exact this
      rw [ed]
      refine h _ ⟨?_, fun k hk => ?_, fun x hx => hl.2.2 x ((List.dropLast_sublist l).subset hx)⟩ ⟨fun a h1 _ => up2_ne _ _ _ h1, fun k hk => up2_other _ _ _ hk⟩
      · rw [up2_same, List.length_dropLast]
      · rw [List.length_dropLast] at hk
        rw [up2_ne _ _ _ (by omega), getD_drop hk, hl.2.1 k (by omega)]
    · rw [if_neg (fun q => e ((nI_eq (by omega) (by omega)).mp q)), if_pos ⟨trivial, inb_nI (by omega) (by omega)⟩, ix_nI (by omega), u, nI_1]
      have et : tie l t = l ++ [t] := by unfold tie; rw [last_getD h0, if_neg (fun q => e (Option.some.inj q))]
      rw [et] at h
      exact h _ (m_tie_app hl hc ht).1 (m_tie_app hl hc ht).2
  · have e0 : l = [] := List.eq_nil_of_length_eq_zero (by omega)
    have hn : ¬ (0 : Int32) < nI l.length := by rw [e0]; decide
    rw [if_neg hn, if_pos ⟨trivial, inb_nI (by omega) (by omega)⟩, ix_nI (by omega), u, nI_1]
    have et : tie l t = l ++ [t] := by rw [e0]; rfl
    rw [et] at h
    exact h _ (m_tie_app hl hc ht).1 (m_tie_app hl hc ht).2
end MD2
