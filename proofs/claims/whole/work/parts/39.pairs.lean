/-! ===== the most twos ===== -/
def mpK (P : Nat → Nat → Nat) (l : List Nat) (f t : Nat) : Nat → Nat → Nat → Nat
  | 0, _, s => s
  | n + 1, k, s => mpK P l f t n (k + 1) (if g0 l k = g0 l f ^^^ 1 then max s (1 + P (f + 1) k + P (k + 1) t) else s)
def mpF (l : List Nat) : Nat → Nat → Nat → Nat
  | 0, _, _ => 0
  | n + 1, f, t => if f < t then mpK (mpF l n) l f t (t - f - 1) (f + 1) (mpF l n (f + 1) t) else 0
theorem mpK_cg {P P' : Nat → Nat → Nat} {l : List Nat} {f t : Nat} : ∀ n k s, (∀ j, k ≤ j → j < k + n → P (f + 1) j = P' (f + 1) j ∧ P (j + 1) t = P' (j + 1) t) → mpK P l f t n k s = mpK P' l f t n k s := by
  intro n
  induction n with
  | zero => intro k s _; rfl
  | succ n ih =>
    intro k s h
    unfold mpK
    rw [(h k (by omega) (by omega)).1, (h k (by omega) (by omega)).2]
    exact ih _ _ (fun j h1 h2 => h j (by omega) (by omega))
theorem mpF_st (l : List Nat) : ∀ n m f t, t - f ≤ n → t - f ≤ m → mpF l n f t = mpF l m f t := by
  intro n
  induction n with
  | zero =>
    intro m f t h1 h2
    cases m with
    | zero => rfl
    | succ m => unfold mpF; rw [if_neg (by omega)]
  | succ n ih =>
    intro m f t h1 h2
    cases m with
    | zero => unfold mpF; rw [if_neg (by omega)]
    | succ m =>
      unfold mpF
      by_cases h : f < t
      · rw [if_pos h, if_pos h, ih m (f + 1) t (by omega) (by omega)]
        exact mpK_cg _ _ _ (fun j g1 g2 => ⟨ih m (f + 1) j (by omega) (by omega), ih m (j + 1) t (by omega) (by omega)⟩)
      · rw [if_neg h, if_neg h]
def mp (l : List Nat) (f t : Nat) : Nat := mpF l (t - f) f t
theorem mp_0 (l : List Nat) {f t : Nat} (h : t ≤ f) : mp l f t = 0 := by
  unfold mp
  rw [show t - f = 0 by omega]
  rfl
theorem mp_r (l : List Nat) {f t : Nat} (h : f < t) : mp l f t = mpK (mp l) l f t (t - f - 1) (f + 1) (mp l (f + 1) t) := by
  obtain ⟨n, hn⟩ : ∃ n, t - f = n + 1 := ⟨t - f - 1, by omega⟩
  have e : mp l f t = mpF l (n + 1) f t := by unfold mp; rw [hn]
  rw [e]
  unfold mpF
  rw [if_pos h]
  have e2 : mpF l n (f + 1) t = mp l (f + 1) t := mpF_st l _ _ _ _ (by omega) (by omega)
  rw [e2]
  exact mpK_cg _ _ _ (fun j g1 g2 => ⟨mpF_st l _ _ _ _ (by omega) (by omega), mpF_st l _ _ _ _ (by omega) (by omega)⟩)
theorem mpK_le {P : Nat → Nat → Nat} {l : List Nat} {f t b : Nat} (hb : 1 ≤ b) : ∀ n k s, s ≤ b → (∀ j, k ≤ j → j < k + n → 1 + P (f + 1) j + P (j + 1) t ≤ b) → mpK P l f t n k s ≤ b := by
  intro n
  induction n with
  | zero => intro k s hs _; exact hs
  | succ n ih =>
    intro k s hs h
    unfold mpK
    refine ih _ _ ?_ (fun j h1 h2 => h j (by omega) (by omega))
    have := h k (by omega) (by omega)
    split
    · omega
    · exact hs
theorem mp_le (l : List Nat) : ∀ n f t, t - f ≤ n → mp l f t ≤ t - f := by
  intro n
  induction n with
  | zero => intro f t h; rw [mp_0 l (by omega)]; omega
  | succ n ih =>
    intro f t h
    by_cases c : f < t
    · rw [mp_r l c]
      refine mpK_le (by omega) _ _ _ ?_ (fun j h1 h2 => ?_)
      · have := ih (f + 1) t (by omega); omega
      · have := ih (f + 1) j (by omega)
        have := ih (j + 1) t (by omega)
        omega
    · rw [mp_0 l (by omega)]; omega
theorem CL202 : CL 202 = 16 := by decide
theorem RR0_10 : RR 0 10 = 202 := by decide
theorem n202 : ¬ (202 : Nat) = 999999 := by decide
theorem LN202 (L : Nat) : LN L 202 = 13 := rfl
theorem pr_all : ∀ f, f < 13 → RR 202 f = 203 + f ∧ CL (203 + f) = 10 ∧ lnL.getD (203 + f) 0 = 13 := by decide
theorem q_rr {f : Nat} (hf : f < 13) : RR 202 (nI f).toNatClampNeg = 203 + f := by rw [ix_nI (by omega)]; exact (pr_all f hf).1
theorem q_ok {f : Nat} (hf : f < 13) : (rdA 16 ∧ inb (nI f) 13) ∧ RR 202 (nI f).toNatClampNeg ≠ 999999 := by
  refine ⟨⟨by decide, inb_nI hf (by omega)⟩, ?_⟩
  rw [q_rr hf]
  omega
theorem q_LN (L : Nat) {f : Nat} (hf : f < 13) : LN L (203 + f) = 13 := by
  unfold LN
  rw [if_neg (by omega), if_neg (by omega)]
  exact (pr_all f hf).2.2
section Pairs
variable {d L : Nat} {I : Nat → Nat → Int32} {J : Nat → Nat → Int64} {l : List Nat}
theorem c_mpw_loop {r cp : Nat} (hr : Rw r cp) (hl : Rl I r l) (hc : l.length ≤ cp) (h12 : l.length ≤ 12) {f t : Nat} (hf : f < t) (ht : t ≤ l.length) (hI : ∀ a b, f < a → a ≤ b → b ≤ t → I (203 + a) b = nI (mp l a b)) (Q : Option Value → Mem → Prop) : ∀ n k s, k + n = t → f < k → s ≤ 100 →
    (Wn (d + 1) i_KN_mostPairsWithin 17 [(0, .ref 0), (1, .ref r), (2, .int (nI f)), (3, .int (nI t)), (4, .int (nI s)), (5, .int (nI k))] [] (mm L I J) Q ↔ Q (some (.int (nI (mpK (mp l) l f t n k s)))) (mm L I J)) := by
  intro n
  induction n with
  | zero =>
    intro k s hk hfk hs
    rw [H_KN_mostPairsWithin_17, if_neg (nI_nlt (by omega) (by omega))]
    rfl
  | succ n ih =>
    intro k s hk hfk hs
    have a1 := Rl_6 hl (show k < l.length by omega)
    have a2 := Rl_6 hl (show f < l.length by omega)
    have a3 := x1_lt a2
    rw [H_KN_mostPairsWithin_17, if_pos (nI_lt (by omega) (by omega)), mm_C, if_pos hr.1, c_at hr hl hc (by omega), mm_C, if_pos hr.1, c_at hr hl hc (by omega), gt_lt (by omega), gt_lt (by omega), c_undoing a2]
    unfold mpK
    by_cases e : l.getD k 0 = l.getD f 0 ^^^ 1
    · have e1 : g0 l k = g0 l f ^^^ 1 := e
      rw [if_pos (by rw [e]), if_pos e1]
      have m1 := mp_le l 20 (f + 1) k (by omega)
      have m2 := mp_le l 20 (k + 1) t (by omega)
      have i1 : I (203 + (f + 1)) k = nI (mp l (f + 1) k) := hI _ _ (by omega) (by omega) (by omega)
      have i2 : I (203 + (k + 1)) t = nI (mp l (k + 1) t) := by
        by_cases c : k + 1 ≤ t
        · exact hI _ _ (by omega) c (by omega)
        · omega
      have mx : (if nI s < (1 + nI (mp l (f + 1) k)) + nI (mp l (k + 1) t) then (1 + nI (mp l (f + 1) k)) + nI (mp l (k + 1) t) else nI s) = nI (max s (1 + mp l (f + 1) k + mp l (k + 1) t)) := by
        have e1 : (1 : Int32) + nI (mp l (f + 1) k) = nI (1 + mp l (f + 1) k) := nI_add 1 _
        rw [e1, nI_add]
        by_cases c : s < 1 + mp l (f + 1) k + mp l (k + 1) t
        · rw [if_pos (nI_lt c (by omega)), Nat.max_eq_right (by omega)]
        · rw [if_neg (nI_nlt (by omega) (by omega)), Nat.max_eq_left (by omega)]
      simp only [mm_C, mm_R, mm_L, mm_I, mm_sI, CL0, CL1, CL3, CL5, CL19, RR0_0, RR0_1, RR0_2, RR3_1, n1, n3, n5, n19, ↓reduceIte, RR0_10, n202, CL202, LN202]
      rw [nI_1, nI_1, if_pos (q_ok (show f + 1 < 13 by omega)), q_rr (show f + 1 < 13 by omega), (pr_all (f + 1) (by omega)).2.1, q_LN L (show f + 1 < 13 by omega), if_pos ⟨by decide, inb_nI (by omega) (by omega)⟩, if_pos (q_ok (show k + 1 < 13 by omega)), q_rr (show k + 1 < 13 by omega), (pr_all (k + 1) (by omega)).2.1, q_LN L (show k + 1 < 13 by omega), if_pos ⟨by decide, inb_nI (by omega) (by omega)⟩, ix_nI (by omega), ix_nI (by omega), i1, i2, mx, ih (k + 1) _ (by omega) (by omega) (by omega)]
    · have e1 : ¬ g0 l k = g0 l f ^^^ 1 := e
      rw [if_neg (fun q => e ((nI_eq (by omega) (by omega)).mp q)), if_neg e1, nI_1, ih (k + 1) _ (by omega) (by omega) hs]
theorem c_mpw {r cp : Nat} (hr : Rw r cp) (hl : Rl I r l) (hc : l.length ≤ cp) (h12 : l.length ≤ 12) {f t : Nat} (hf : f < t) (ht : t ≤ l.length) (hI : ∀ a b, f < a → a ≤ b → b ≤ t → I (203 + a) b = nI (mp l a b)) (Q : Int32 → Mem → Prop) : WI (d + 1) i_KN_mostPairsWithin [.ref 0, .ref r, .int (nI f), .int (nI t)] (mm L I J) Q ↔ Q (nI (mp l f t)) (mm L I J) := by
  have m1 := mp_le l 20 (f + 1) t (by omega)
  rw [E_KN_mostPairsWithin]
  simp only [mm_C, mm_R, mm_L, mm_I, mm_sI, CL0, CL1, CL3, CL5, CL19, RR0_0, RR0_1, RR0_2, RR3_1, n1, n3, n5, n19, ↓reduceIte, RR0_10, n202, CL202, LN202]
  rw [nI_1, if_pos (q_ok (show f + 1 < 13 by omega)), q_rr (show f + 1 < 13 by omega), (pr_all (f + 1) (by omega)).2.1, q_LN L (show f + 1 < 13 by omega), if_pos ⟨by decide, inb_nI (by omega) (by omega)⟩, ix_nI (by omega), hI (f + 1) t (by omega) (by omega) (by omega), c_mpw_loop hr hl hc h12 hf ht hI (QI Q) (t - f - 1) (f + 1) _ (by omega) (by omega) (by omega), mp_r l hf]
  exact Iff.rfl
end Pairs
