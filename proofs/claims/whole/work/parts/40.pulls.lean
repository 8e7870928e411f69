theorem CL200 : CL 200 = 4 := by decide
theorem RR0_9 : RR 0 9 = 200 := by decide
theorem n200 : ¬ (200 : Nat) = 999999 := by decide
theorem w200 : Rw 200 12 := by unfold Rw; decide
section Pairs2
variable {d L : Nat} {J : Nat → Nat → Int64} {l : List Nat}
theorem c_mp_in (h12 : l.length ≤ 12) {f : Nat} (hf : f ≤ l.length) (Q : Option Value → Mem → Prop) : ∀ (m t : Nat) (I : Nat → Nat → Int32), t + m = l.length + 1 → f < t → (∀ a b, f < a → a ≤ b → b ≤ l.length → I (203 + a) b = nI (mp l a b)) → (∀ b, f ≤ b → b < t → I (203 + f) b = nI (mp l f b)) → Rl I 5 l → (∀ I', (∀ a b, f ≤ a → a ≤ b → b ≤ l.length → I' (203 + a) b = nI (mp l a b)) → FrR 203 216 I I' → Wn (d + 2) i_KN_mostPairs 12 [(0, .ref 0), (1, .ref 5), (2, .int (nI l.length)), (3, .int (nI f + (-1)))] [] (mm L I' J) Q) →
    Wn (d + 2) i_KN_mostPairs 30 [(0, .ref 0), (1, .ref 5), (2, .int (nI l.length)), (3, .int (nI f)), (4, .int (nI t))] [] (mm L I J) Q := by
  intro m
  induction m with
  | zero =>
    intro t I ht hft hI hR hl h
    rw [H_KN_mostPairs_30, if_pos (nI_lt (by omega) (by omega))]
    refine h I (fun a b h1 h2 h3 => ?_) (FrR_rf _ _ _)
    by_cases e : a = f
    · rw [e]
      exact hR b (by omega) (by omega)
    · exact hI a b (by omega) h2 h3
  | succ m ih =>
    intro t I ht hft hI hR hl h
    rw [H_KN_mostPairs_30, if_neg (nI_nlt (by omega) (by omega))]
    simp only [mm_C, mm_R, mm_L, mm_I, mm_sI, CL0, CL1, CL3, CL5, CL19, RR0_0, RR0_1, RR0_2, RR3_1, n1, n3, n5, n19, ↓reduceIte, RR0_10, n202, CL202, LN202]
    rw [if_pos (q_ok (show f < 13 by omega)), q_rr (show f < 13 by omega), c_mpw w5 hl h12 h12 hft (by omega) (fun a b h1 h2 h3 => hI a b h1 h2 (by omega)), mm_C, mm_L, (pr_all f (by omega)).2.1, q_LN L (show f < 13 by omega), if_pos ⟨rfl, inb_nI (by omega) (by omega)⟩, mm_sI, ix_nI (by omega), nI_1]
    have hF : FrR 203 216 I (up2 I (203 + f) t (nI (mp l f t))) := FrR_u (by omega) (by omega)
    refine ih (t + 1) _ (by omega) (by omega) (fun a b h1 h2 h3 => ?_) (fun b h1 h2 => ?_) (Rl_keep hl (hF 5 (by omega)) (hF 6 (by omega))) (fun I' g1 g2 => h I' g1 (FrR_tr hF g2))
    · rw [up2_ne _ _ _ (by omega)]
      exact hI a b h1 h2 h3
    · by_cases e : b = t
      · rw [e, up2_same]
      · rw [up2_other _ _ _ e]
        exact hR b h1 (by omega)
theorem c_mp_out (h12 : l.length ≤ 12) (Q : Option Value → Mem → Prop) : ∀ (k : Nat) (I : Nat → Nat → Int32), k ≤ l.length + 1 → (∀ a b, k ≤ a → a ≤ b → b ≤ l.length → I (203 + a) b = nI (mp l a b)) → Rl I 5 l → (∀ I', FrR 203 216 I I' → Q (some (.int (nI (mp l 0 l.length)))) (mm L I' J)) →
    Wn (d + 2) i_KN_mostPairs 12 [(0, .ref 0), (1, .ref 5), (2, .int (nI l.length)), (3, .int (nI k + (-1)))] [] (mm L I J) Q := by
  intro k
  induction k with
  | zero =>
    intro I hk hI hl h
    have k0 : (rdA 16 ∧ inb 0 13) ∧ RR 202 (Int32.toNatClampNeg 0) ≠ 999999 := q_ok (f := 0) (by omega)
    have k1 : RR 202 (Int32.toNatClampNeg 0) = 203 + 0 := q_rr (f := 0) (by omega)
    rw [H_KN_mostPairs_12, if_pos (by decide)]
    simp only [mm_C, mm_R, mm_L, mm_I, mm_sI, CL0, CL1, CL3, CL5, CL19, RR0_0, RR0_1, RR0_2, RR3_1, n1, n3, n5, n19, ↓reduceIte, RR0_10, n202, CL202, LN202]
    rw [if_pos k0, k1, (pr_all 0 (by omega)).2.1, q_LN L (show 0 < 13 by omega), if_pos ⟨by decide, inb_nI (by omega) (by omega)⟩, ix_nI (by omega), hI 0 l.length (by omega) (by omega) (by omega)]
    exact h I (FrR_rf _ _ _)
  | succ f ih =>
    intro I hk hI hl h
    rw [nI_dec, H_KN_mostPairs_12, if_neg (nI_nn (by omega))]
    simp only [mm_C, mm_R, mm_L, mm_I, mm_sI, CL0, CL1, CL3, CL5, CL19, RR0_0, RR0_1, RR0_2, RR3_1, n1, n3, n5, n19, ↓reduceIte, RR0_10, n202, CL202, LN202]
    rw [if_pos (q_ok (show f < 13 by omega)), q_rr (show f < 13 by omega), (pr_all f (by omega)).2.1, q_LN L (show f < 13 by omega), if_pos ⟨rfl, inb_nI (by omega) (by omega)⟩, ix_nI (by omega), nI_1]
    have hF : FrR 203 216 I (up2 I (203 + f) f 0) := FrR_u (by omega) (by omega)
    refine c_mp_in h12 (by omega) Q (l.length - f) (f + 1) _ (by omega) (by omega) (fun a b h1 h2 h3 => ?_) (fun b h1 h2 => ?_) (Rl_keep hl (hF 5 (by omega)) (hF 6 (by omega))) (fun I' g1 g2 => ?_)
    · rw [up2_ne _ _ _ (by omega)]
      exact hI a b (by omega) h2 h3
    · have : b = f := by omega
      rw [this, up2_same, mp_0 l (Nat.le_refl _), nI_0]
    · have hF2 := FrR_tr hF g2
      exact ih I' (by omega) g1 (Rl_keep hl (hF2 5 (by omega)) (hF2 6 (by omega))) (fun I'' f1 => h I'' (FrR_tr hF2 f1))
theorem c_mp {I : Nat → Nat → Int32} (h12 : l.length ≤ 12) (hl : Rl I 5 l) (Q : Int32 → Mem → Prop) (h : ∀ I', FrR 203 216 I I' → Q (nI (mp l 0 l.length)) (mm L I' J)) : WI (d + 2) i_KN_mostPairs [.ref 0, .ref 5] (mm L I J) Q := by
  have e : (if (12 : Int32) < nI l.length then (12 : Int32) else nI l.length) = nI l.length := by
    have : ¬ nI 12 < nI l.length := nI_nlt h12 (by omega)
    have : ¬ (12 : Int32) < nI l.length := this
    rw [if_neg this]
  rw [E_KN_mostPairs, mm_C, if_pos CL5, mm_I, hl.1, e]
  have := c_mp_out (d := d) (L := L) (J := J) h12 (QI Q) (l.length + 1) I (Nat.le_refl _) (fun a b h1 h2 h3 => by omega) hl h
  rw [nI_dec] at this
  exact this
end Pairs2
section Pulls
variable {d L : Nat} {I : Nat → Nat → Int32} {J : Nat → Nat → Int64} {ns : List (List Nat)} {ct : List Nat} {ps : List Cp} {im : Nat → Option Cp} {tx : List Nat} {tr : Int64}
def pulA (ct : List Nat) (y : Int32) : Int32 := if Int32.toInt y = 0 then (if nI (tieAll [] ct).length = 0 then 1 else 0) else if Int32.toInt y = 1 then nI (tieAll [] ct).length else if Int32.toInt y = 2 then nI ct.length - 2 * nI (mp ct 0 ct.length) else if Int32.toInt y = 3 then (nI ct.length - nI (tieAll [] ct).length) / 2 else -1
theorem k_pulls (h : ClR I J ns ct ps im tx tr) (y : Int32) (Q : Int32 → Mem → Prop) (hQ : ∀ I', ClR I' J ns ct ps im tx tr → FrR 0 248 I I' → Q (pulA ct y) (mm L I' J)) : WI (d + 5) i_KN_pulls [.ref 0, .int y] (mm L I J) Q := by
  have c12 := h.1.2.2.2.2
  rw [E_KN_pulls]
  simp only [mm_C, mm_R, mm_L, mm_I, mm_sI, CL0, CL1, CL3, CL5, CL19, RR0_0, RR0_1, RR0_2, RR3_1, n1, n3, n5, n19, ↓reduceIte, RR0_9, n200, CL200]
  refine c_becomeTight w200 w5 (by omega) (r5 h.1) c12 c12 _ (fun I' g1 g2 => ?_)
  have F1 : FrR 200 202 I I' := FrR_1 g2 (by omega) (by omega)
  have h1 := ClR_sc h F1 (by omega) (by omega)
  have e5 := (r5 h1.1).1
  simp only [mm_C, mm_R, mm_L, mm_I, mm_sI, CL0, CL1, CL3, CL5, CL19, RR0_0, RR0_1, RR0_2, RR3_1, n1, n3, n5, n19, ↓reduceIte, RR0_9, n200, CL200, g1.1, e5]
  unfold pulA at hQ
  by_cases y0 : Int32.toInt y = 0
  · rw [if_pos y0] at hQ
    rw [if_pos y0, ← pif (Q := Q)]
    exact hQ I' h1 (FrR_w F1 (by omega) (by omega))
  rw [if_neg y0] at hQ
  rw [if_neg y0]
  by_cases y1 : Int32.toInt y = 1
  · rw [if_pos y1] at hQ
    rw [if_pos y1]
    exact hQ I' h1 (FrR_w F1 (by omega) (by omega))
  rw [if_neg y1] at hQ
  rw [if_neg y1]
  by_cases y2 : Int32.toInt y = 2
  · rw [if_pos y2] at hQ
    rw [if_pos y2]
    refine c_mp c12 (r5 h1.1) _ (fun I'' f1 => ?_)
    exact hQ I'' (ClR_sc h1 f1 (by omega) (by omega)) (FrR_tr (FrR_w F1 (by omega) (by omega)) (FrR_w f1 (by omega) (by omega)))
  rw [if_neg y2] at hQ
  rw [if_neg y2]
  by_cases y3 : Int32.toInt y = 3
  · rw [if_pos y3] at hQ
    rw [if_pos y3]
    exact hQ I' h1 (FrR_w F1 (by omega) (by omega))
  rw [if_neg y3] at hQ
  rw [if_neg y3]
  exact hQ I' h1 (FrR_w F1 (by omega) (by omega))
end Pulls
