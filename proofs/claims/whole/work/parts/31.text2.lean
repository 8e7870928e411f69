def tnN (q : Nat) : Nat := if q = 117 then 0 else if q = 100 then 1 else if q = 108 then 2 else if q = 114 then 3 else if q = 105 then 4 else if q = 111 then 5 else 6
theorem tn_NL (q : Nat) : (tnN q < 6 ∧ ¬ tnL q < 0 ∧ tnL q = nI (tnN q)) ∨ (tnN q = 6 ∧ tnL q < 0 ∧ tnL q = -1) := by
  unfold tnN tnL
  by_cases h1 : q = 117
  · rw [if_pos h1, if_pos h1]; decide
  rw [if_neg h1, if_neg h1]
  by_cases h2 : q = 100
  · rw [if_pos h2, if_pos h2]; decide
  rw [if_neg h2, if_neg h2]
  by_cases h3 : q = 108
  · rw [if_pos h3, if_pos h3]; decide
  rw [if_neg h3, if_neg h3]
  by_cases h4 : q = 114
  · rw [if_pos h4, if_pos h4]; decide
  rw [if_neg h4, if_neg h4]
  by_cases h5 : q = 105
  · rw [if_pos h5, if_pos h5]; decide
  rw [if_neg h5, if_neg h5]
  by_cases h6 : q = 111
  · rw [if_pos h6, if_pos h6]; decide
  rw [if_neg h6, if_neg h6]
  decide
/-- the class' text -/
def TxR (I : Nat → Nat → Int32) (tx : List Nat) : Prop := I 1 1 = nI tx.length ∧ tx.length ≤ 200 ∧ ∀ k, k < tx.length → I 2 k = nI (tx.getD k 0) ∧ tx.getD k 0 < 256
theorem TxR_fr {I I' : Nat → Nat → Int32} {lo hi : Nat} {tx : List Nat} (hF : FrR lo hi I I') (hc : 3 ≤ lo ∨ hi ≤ 1) (h : TxR I tx) : TxR I' tx := by
  refine ⟨by rw [hF 1 (by omega)]; exact h.1, h.2.1, fun k hk => ?_⟩
  rw [hF 2 (by omega)]
  exact h.2.2 k hk
theorem SxR_fr {I I' : Nat → Nat → Int32} {lo hi : Nat} (hF : FrR lo hi I I') (hc : hi ≤ 1000000) (h : SxR I) : SxR I' := by
  unfold SxR
  rw [hF 1000001 (by omega), hF 1000002 (by omega)]
  exact h
def flt (tx : List Nat) : Nat → Nat → Nat → Nat → Bool → Option Nat
  | 0, k, _, _, o => if o = true then some k else none
  | n + 1, k, i, t, o =>
    if tx.getD k 0 = 32 then flt tx n (k + 1) i t o
    else if o = true then
      (if tx.getD k 0 = 59 then flt tx n (k + 1) i t false
       else if tnN (tx.getD k 0) < 6 then (if t < 8 then flt tx n (k + 1) i (t + 1) true else some k)
       else some k)
    else if tx.getD k 0 = 104 then (if i < 6 then flt tx n (k + 1) (i + 1) 0 true else some k)
    else some k
def fI : Option Nat → Int32
  | none => -1
  | some k => nI k
theorem q_ne {q : Nat} (c : Nat) (hq : q < 256) (hc : c < 256) (h : q ≠ c) : nI q ≠ nI c := fun e => h ((nI_eq (by omega) (by omega)).mp e)
section TextD
variable {d L : Nat} {I : Nat → Nat → Int32} {J : Nat → Nat → Int64} {tx : List Nat}
theorem c_fault_loop (hT : TxR I tx) (hS : SxR I) (Q : Option Value → Mem → Prop) : ∀ n k i t o, k + n = tx.length → i ≤ 6 → t ≤ 8 →
    (Wn (d + 6) i_Text_fault 9 [(0, .ref 1), (1, .int (nI i)), (2, .int (nI t)), (3, .int (bI o)), (4, .int (nI k))] [] (mm L I J) Q ↔ Q (some (.int (fI (flt tx n k i t o)))) (mm L I J)) := by
  have h200 := hT.2.1
  intro n
  induction n with
  | zero =>
    intro k i t o hk hi ht
    rw [H_Text_fault_9, mm_C, mm_I, if_pos CL1, hT.1, if_neg (nI_nlt (by omega) (by omega))]
    unfold flt
    cases o with
    | false => rw [if_pos (by rfl), if_neg (by decide)]; rfl
    | true =>
      rw [if_neg (by decide), if_pos CL1, if_pos rfl, show tx.length = k by omega]
      rfl
  | succ n ih =>
    intro k i t o hk hi ht
    obtain ⟨e1, e2⟩ := hT.2.2 k (by omega)
    have i0 : (0 : Int32) = nI 0 := by rw [nI_0]
    rw [H_Text_fault_9, mm_C, mm_I, mm_R, mm_L, if_pos CL1, hT.1, if_pos (nI_lt (by omega) (by omega)), if_pos CL1, RR1_0, if_neg (by omega), CL2, LN2, if_pos ⟨rfl, inb_nI (by omega) (by omega)⟩, ix_nI (by omega), e1]
    unfold flt
    by_cases q32 : tx.getD k 0 = 32
    · rw [if_pos (by rw [q32]; rfl), if_pos q32, nI_1, ih _ _ _ _ (by omega) hi ht]
    · have n32 : nI (tx.getD k 0) ≠ 32 := q_ne 32 e2 (by omega) q32
      rw [if_neg n32, if_neg q32]
      cases o with
      | false =>
        have b0 : bI false = 0 := rfl
        rw [b0, if_pos rfl, if_pos rfl, if_pos rfl, if_neg (show ¬ false = true by decide)]
        by_cases q104 : tx.getD k 0 = 104
        · rw [if_pos (by rw [q104]; rfl), if_pos q104]
          by_cases i6 : i < 6
          · have j6 : nI i < nI 6 := nI_lt i6 (by omega)
            have j6 : nI i < 6 := j6
            have b1 : (1 : Int32) = bI true := rfl
            rw [if_pos j6, if_pos i6, nI_1, nI_1]
            have := ih (k + 1) (i + 1) 0 true (by omega) (by omega) (by omega)
            rw [nI_0] at this
            exact this
          · have j6 : ¬ nI i < nI 6 := nI_nlt (by omega) (by omega)
            have j6 : ¬ nI i < 6 := j6
            rw [if_neg j6, if_neg i6]
            rfl
        · have n104 : nI (tx.getD k 0) ≠ 104 := q_ne 104 e2 (by omega) q104
          rw [if_neg n104, if_neg q104]
          rfl
      | true =>
        have b1 : bI true = 1 := rfl
        rw [b1, if_neg (by decide), if_pos rfl]
        by_cases q59 : tx.getD k 0 = 59
        · rw [if_pos (by rw [q59]; rfl), if_pos q59, nI_1]
          exact ih (k + 1) i t false (by omega) hi ht
        · have n59 : nI (tx.getD k 0) ≠ 59 := q_ne 59 e2 (by omega) q59
          rw [if_neg n59, if_neg q59, if_neg (by decide), c_isTL hS e2]
          rcases tn_NL (tx.getD k 0) with ⟨t1, t2, t3⟩ | ⟨t1, t2, t3⟩
          · rw [if_neg t2, if_neg (by decide), if_pos t1]
            by_cases t8 : t < 8
            · have j8 : nI t < nI 8 := nI_lt t8 (by omega)
              have j8 : nI t < 8 := j8
              rw [if_pos j8, if_pos t8, nI_1, nI_1]
              exact ih (k + 1) i (t + 1) true (by omega) hi (by omega)
            · have j8 : ¬ nI t < nI 8 := nI_nlt (by omega) (by omega)
              have j8 : ¬ nI t < 8 := j8
              rw [if_neg j8, if_neg t8, if_neg (by decide)]
              rfl
          · rw [if_pos t2, if_pos rfl, if_neg (by decide), if_neg (by omega)]
            rfl
theorem c_fault (hT : TxR I tx) (hS : SxR I) (Q : Int32 → Mem → Prop) : WI (d + 6) i_Text_fault [.ref 1] (mm L I J) Q ↔ Q (fI (flt tx tx.length 0 0 0 false)) (mm L I J) := by
  rw [E_Text_fault]
  have := c_fault_loop (d := d) (L := L) (J := J) hT hS (QI Q) tx.length 0 0 0 false (by omega) (by omega) (by omega)
  rw [nI_0] at this
  exact this
def tellF (tx : List Nat) : Nat → Nat → List (List Nat) → List (List Nat)
  | 0, _, ns => ns
  | n + 1, k, ns => tellF tx n (k + 1) (if tx.getD k 0 = 104 then ns ++ [[]] else if tnN (tx.getD k 0) < 6 then ns.set (ns.length - 1) (tie (nmO ns (ns.length - 1)) (tnN (tx.getD k 0))) else ns)
end TextD
section TextE
variable {d L : Nat} {J : Nat → Nat → Int64} {tx : List Nat}
theorem c_tell_loop (Q : Option Value → Mem → Prop) : ∀ (n k t : Nat) (o : Bool) (ns : List (List Nat)) (I : Nat → Nat → Int32), k + n = tx.length → TxR I tx → SxR I → Cl I 3 ns [] → flt tx n k ns.length t o = none → (o = true → ∃ h, ns.length = h + 1 ∧ (nmO ns h).length ≤ t) → t ≤ 8 → (∀ I', Cl I' 3 (tellF tx n k ns) [] → FrR 3 19 I I' → Q none (mm L I' J)) →
    Wn (d + 6) i_Text_tell 6 [(0, .ref 1), (1, .ref 3), (2, .int (nI k))] [] (mm L I J) Q := by
  intro n
  induction n with
  | zero =>
    intro k t o ns I hk hT hS hl hf ho ht h
    have h200 := hT.2.1
    rw [H_Text_tell_6, mm_C, mm_I, if_pos CL1, hT.1, if_neg (nI_nlt (by omega) (by omega))]
    exact h I hl (FrR_rf _ _ _)
  | succ n ih =>
    intro k t o ns I hk hT hS hl hf ho ht h
    have h200 := hT.2.1
    obtain ⟨e1, e2⟩ := hT.2.2 k (by omega)
    rw [H_Text_tell_6, mm_C, mm_I, mm_R, mm_L, if_pos CL1, hT.1, if_pos (nI_lt (by omega) (by omega)), if_pos CL1, RR1_0, if_neg (by omega), CL2, LN2, if_pos ⟨rfl, inb_nI (by omega) (by omega)⟩, ix_nI (by omega), e1]
    unfold tellF at h
    unfold flt at hf
    by_cases q104 : tx.getD k 0 = 104
    · rw [if_pos (by rw [q104]; rfl), if_pos CL3]
      rw [if_pos q104] at h
      rw [if_neg (by omega), if_pos q104] at hf
      have o0 : ¬ o = true := by
        intro o1
        rw [if_pos o1, if_neg (by omega), if_neg (by rw [q104]; decide)] at hf
        cases hf
      rw [if_neg o0] at hf
      by_cases i6 : ns.length < 6
      · rw [if_pos i6] at hf
        refine c_addH Cw_3 hl i6 _ (fun I' g1 g2 => ?_)
        rw [nI_1]
        refine ih (k + 1) 0 true (ns ++ [[]]) I' (by omega) (TxR_fr g2 (by omega) hT) (SxR_fr g2 (by omega) hS) g1 ?_ (fun _ => ⟨ns.length, ?_, ?_⟩) (by omega) (fun I'' f1 f2 => h I'' f1 (FrR_tr g2 f2))
        · rw [List.length_append]
          exact hf
        · rw [List.length_append]
          rfl
        · rw [nmO_end]
          exact Nat.le_refl _
      · rw [if_neg i6] at hf
        cases hf
    · have n104 : nI (tx.getD k 0) ≠ 104 := q_ne 104 e2 (by omega) q104
      rw [if_neg n104, c_isTL hS e2]
      rw [if_neg q104] at h
      rcases tn_NL (tx.getD k 0) with ⟨t1, t2, t3⟩ | ⟨t1, t2, t3⟩
      · have q32 : ¬ tx.getD k 0 = 32 := fun e => by rw [e] at t1; exact absurd t1 (by decide)
        have q59 : ¬ tx.getD k 0 = 59 := fun e => by rw [e] at t1; exact absurd t1 (by decide)
        rw [if_pos t1] at h
        rw [if_neg q32] at hf
        have o1 : o = true := by
          cases o with
          | true => rfl
          | false => rw [if_neg (by decide), if_neg q104] at hf; cases hf
        rw [if_pos o1, if_neg q59, if_pos t1] at hf
        obtain ⟨j, j1, j2⟩ := ho o1
        have t8 : t < 8 := by
          by_cases t8 : t < 8
          · exact t8
          · rw [if_neg t8] at hf; cases hf
        rw [if_pos t8] at hf
        have hlen := tie_len (nmO ns j) (tnN (tx.getD k 0))
        rw [if_neg t2, if_neg (by decide), mm_C, if_pos CLs, c_ixOf hS e2, mm_C, if_pos CL3, t3]
        rw [j1, Nat.add_sub_cancel] at h
        refine c_tieLast Cw_3 hl j1 t1 (by omega) _ (fun I' g1 g2 => ?_)
        rw [nI_1]
        refine ih (k + 1) (t + 1) true _ I' (by omega) (TxR_fr g2 (by omega) hT) (SxR_fr g2 (by omega) hS) g1 ?_ (fun _ => ⟨j, ?_, ?_⟩) (by omega) (fun I'' f1 f2 => h I'' f1 (FrR_tr g2 f2))
        · rw [List.length_set]
          exact hf
        · rw [List.length_set]
          exact j1
        · rw [nmO_set _ _ (by omega)]
          omega
      · rw [if_neg (by omega)] at h
        rw [if_pos t2, if_pos rfl, nI_1]
        by_cases q32 : tx.getD k 0 = 32
        · rw [if_pos q32] at hf
          exact ih (k + 1) t o ns I (by omega) hT hS hl hf ho ht h
        · rw [if_neg q32] at hf
          have o1 : o = true := by
            cases o with
            | true => rfl
            | false => rw [if_neg (by decide), if_neg q104] at hf; cases hf
          rw [if_pos o1] at hf
          by_cases q59 : tx.getD k 0 = 59
          · rw [if_pos q59] at hf
            exact ih (k + 1) t false ns I (by omega) hT hS hl hf (fun q => by cases q) ht h
          · rw [if_neg q59, if_neg (by omega)] at hf
            cases hf
theorem c_tell {I : Nat → Nat → Int32} (hT : TxR I tx) (hS : SxR I) (hf : flt tx tx.length 0 0 0 false = none) (Q : Mem → Prop) (h : ∀ I', Cl I' 3 (tellF tx tx.length 0 []) [] → FrR 3 19 I I' → Q (mm L I' J)) : WV (d + 6) i_Text_tell [.ref 1, .ref 3] (mm L I J) Q := by
  rw [E_Text_tell, mm_C, if_pos CL3]
  refine c_cempty Cw_3 _ (fun I' g1 g2 => ?_)
  have := c_tell_loop (d := d) (L := L) (J := J) (QV Q) tx.length 0 0 false [] I' (by omega) (TxR_fr g2 (by omega) hT) (SxR_fr g2 (by omega) hS) g1 hf (fun q => by cases q) (by omega) (fun I'' f1 f2 => h I'' f1 (FrR_tr g2 f2))
  rw [nI_0] at this
  exact this
theorem tellF_tg : ∀ (n k : Nat) (ns : List (List Nat)), (∀ h, Tg (nmO ns h)) → ∀ h, Tg (nmO (tellF tx n k ns) h) := by
  intro n
  induction n with
  | zero => intro k ns h; exact h
  | succ n ih =>
    intro k ns h
    unfold tellF
    apply ih
    intro j
    split
    · by_cases e : j < ns.length
      · rw [nmO_app _ _ e]; exact h j
      · by_cases e2 : j = ns.length
        · rw [e2, nmO_end]; exact Tg_nil
        · have : nmO (ns ++ [[]]) j = [] := by
            unfold nmO
            rw [List.getD_eq_getElem?_getD, List.getElem?_eq_none (by rw [List.length_append, List.length_singleton]; omega)]
            rfl
          rw [this]
          exact Tg_nil
    · split
      · by_cases e : ns.length - 1 = j
        · by_cases e3 : j < ns.length
          · rw [e, nmO_set _ _ e3]
            exact Tg_tie (h _) _
          · have : ns.set (ns.length - 1) (tie (nmO ns (ns.length - 1)) (tnN (tx.getD k 0))) = ns := List.set_eq_of_length_le (by omega)
            rw [this]
            exact h j
        · rw [nmO_setn _ _ e]
          exact h j
      · exact h j
end TextE
