theorem nI_m1 {k : Nat} (h : 0 < k) : nI k - 1 = nI (k - 1) := by
  have := nI_pred (k - 1)
  rw [show k - 1 + 1 = k by omega] at this
  exact this
section RowF
variable {d r cp o co L : Nat} {I : Nat → Nat → Int32} {J : Nat → Nat → Int64} {l m : List Nat}
def tghP (l : List Nat) : Nat → Bool := fun k => !(g0 l k == g0 l (k - 1) ^^^ 1)
def tghB (l : List Nat) : Bool := alB (tghP l) (l.length - 1) 1
theorem c_isTight_loop (hr : Rw r cp) (hl : Rl I r l) (hc : l.length ≤ cp) (Q : Option Value → Mem → Prop) : ∀ n k, 1 ≤ k → (k + n = l.length ∨ (n = 0 ∧ l.length ≤ k ∧ k ≤ 80)) →
    (Wn (d + 1) i_Row_isTight 2 [(0, .ref r), (1, .int (nI k))] [] (mm L I J) Q ↔ Q (some (.int (bI (alB (tghP l) n k)))) (mm L I J)) := by
  have hcp := hr.2.2.2.2.2
  intro n
  induction n with
  | zero =>
    intro k h1 hk
    rw [H_Row_isTight_2, mm_C, mm_I, if_pos hr.1, hl.1, if_neg (nI_nlt (by omega) (by omega))]
    rfl
  | succ n ih =>
    intro k h1 hk
    have a1 := Rl_6 hl (show k < l.length by omega)
    have a2 := Rl_6 hl (show k - 1 < l.length by omega)
    have a3 := x1_lt a2
    rw [H_Row_isTight_2, mm_C, mm_I, if_pos hr.1, hl.1, if_pos (nI_lt (by omega) (by omega)), if_pos hr.1, c_at hr hl hc (by omega), mm_C, if_pos hr.1, nI_m1 (by omega), c_at hr hl hc (by omega), gt_lt (by omega), gt_lt (by omega), c_undoing a2, nI_1, ih (k + 1) (by omega) (by omega)]
    by_cases e : l.getD k 0 = l.getD (k - 1) 0 ^^^ 1
    · rw [if_pos (by rw [e]), alB_f (nb_f e)]
      rfl
    · rw [if_neg (fun q => e ((nI_eq (by omega) (by omega)).mp q)), alB_t (nb_t e)]
theorem c_isTight (hr : Rw r cp) (hl : Rl I r l) (hc : l.length ≤ cp) (Q : Int32 → Mem → Prop) : WI (d + 1) i_Row_isTight [.ref r] (mm L I J) Q ↔ Q (bI (tghB l)) (mm L I J) := by
  rw [E_Row_isTight]
  exact c_isTight_loop hr hl hc (QI Q) (l.length - 1) 1 (by omega) (by omega)
def repP (l : List Nat) (z : Nat) : Nat → Bool := fun k => g0 l k == g0 l (k - z)
def repB (l : List Nat) (z : Nat) : Bool := alB (repP l z) (l.length - z) z
theorem c_rep_loop (hr : Rw r cp) (hl : Rl I r l) (hc : l.length ≤ cp) {z : Nat} (hz : z ≤ 80) (Q : Option Value → Mem → Prop) : ∀ n k, z ≤ k → (k + n = l.length ∨ (n = 0 ∧ l.length ≤ k ∧ k ≤ 80)) →
    (Wn (d + 1) i_Row_repeats 2 [(0, .ref r), (1, .int (nI z)), (2, .int (nI k))] [] (mm L I J) Q ↔ Q (some (.int (bI (alB (repP l z) n k)))) (mm L I J)) := by
  have hcp := hr.2.2.2.2.2
  intro n
  induction n with
  | zero =>
    intro k h1 hk
    rw [H_Row_repeats_2, mm_C, mm_I, if_pos hr.1, hl.1, if_neg (nI_nlt (by omega) (by omega))]
    rfl
  | succ n ih =>
    intro k h1 hk
    have a1 := Rl_6 hl (show k < l.length by omega)
    have a2 := Rl_6 hl (show k - z < l.length by omega)
    rw [H_Row_repeats_2, mm_C, mm_I, if_pos hr.1, hl.1, if_pos (nI_lt (by omega) (by omega)), if_pos hr.1, c_at hr hl hc (by omega), mm_C, if_pos hr.1, pk_sub h1, c_at hr hl hc (by omega), gt_lt (by omega), gt_lt (by omega), nI_1, ih (k + 1) (by omega) (by omega)]
    by_cases e : l.getD k 0 = l.getD (k - z) 0
    · rw [if_pos (by rw [e]), alB_t (P := repP l z) (eb_t e)]
    · rw [if_neg (fun q => e ((nI_eq (by omega) (by omega)).mp q)), alB_f (P := repP l z) (eb_f e)]
      rfl
theorem c_rep (hr : Rw r cp) (hl : Rl I r l) (hc : l.length ≤ cp) {z : Nat} (hz : z ≤ 80) (Q : Int32 → Mem → Prop) : WI (d + 1) i_Row_repeats [.ref r, .int (nI z)] (mm L I J) Q ↔ Q (bI (repB l z)) (mm L I J) := by
  rw [E_Row_repeats]
  exact c_rep_loop hr hl hc hz (QI Q) (l.length - z) z (by omega) (by omega)
def rooP (l : List Nat) : Nat → Bool := fun z => (l.length % z == 0) && repB l z
def roo (l : List Nat) : Nat := if l.length = 0 then 0 else fs (rooP l) (l.length - 1) 1
theorem bI_0 {b : Bool} : bI b = 0 ↔ b = false := by cases b <;> simp [bI]
theorem nI_z {a : Nat} (h : a < 2 ^ 31) : nI a = 0 ↔ a = 0 := by
  have := nI_eq h (show 0 < 2 ^ 31 by omega)
  rw [nI_0] at this
  exact this
theorem c_root_loop (hr : Rw r cp) (hl : Rl I r l) (hc : l.length ≤ cp) (Q : Option Value → Mem → Prop) : ∀ n k, 1 ≤ k → k + n = l.length →
    (Wn (d + 2) i_Row_shortestRepeated 2 [(0, .ref r), (1, .int (nI k))] [] (mm L I J) Q ↔ Q (some (.int (nI (fs (rooP l) n k)))) (mm L I J)) := by
  have hcp := hr.2.2.2.2.2
  intro n
  induction n with
  | zero =>
    intro k h1 hk
    rw [H_Row_shortestRepeated_2, mm_C, mm_I, if_pos hr.1, hl.1, if_neg (nI_nlt (by omega) (by omega)), if_pos hr.1]
    rw [show l.length = k by omega]
    rfl
  | succ n ih =>
    intro k h1 hk
    rw [H_Row_shortestRepeated_2, mm_C, mm_I, if_pos hr.1, hl.1, if_pos (nI_lt (by omega) (by omega)), if_pos hr.1, if_neg (nI_ne0 (by omega) (by omega)), pk_rem (by omega) (by omega) (by omega), nI_1, ih (k + 1) (by omega) (by omega)]
    have hlt : l.length % k < k := Nat.mod_lt _ (by omega)
    by_cases e : l.length % k = 0
    · rw [if_pos ((nI_z (by omega)).mpr e), if_pos hr.1, c_rep hr hl hc (by omega)]
      by_cases e2 : repB l k = true
      · rw [if_neg (fun q => by rw [bI_0.mp q] at e2; cases e2), fs_t (by unfold rooP; rw [eb_t e, e2]; rfl)]
      · have e2 : repB l k = false := by simpa using e2
        rw [if_pos (bI_0.mpr e2), ih (k + 1) (by omega) (by omega), fs_f (by unfold rooP; rw [e2, Bool.and_false])]
    · rw [if_neg (fun q => e ((nI_z (by omega)).mp q)), fs_f (by unfold rooP; rw [eb_f e]; rfl)]
theorem c_root (hr : Rw r cp) (hl : Rl I r l) (hc : l.length ≤ cp) (Q : Int32 → Mem → Prop) : WI (d + 2) i_Row_shortestRepeated [.ref r] (mm L I J) Q ↔ Q (nI (roo l)) (mm L I J) := by
  have hcp := hr.2.2.2.2.2
  rw [E_Row_shortestRepeated]
  unfold roo
  by_cases h0 : l.length = 0
  · rw [if_pos h0]
    have h1 : nI l.length = 0 := by rw [h0]; rfl
    show Wn (d + 2) i_Row_shortestRepeated 2 [(0, .ref r), (1, .int 1)] [] (mm L I J) (QI Q) ↔ _
    rw [H_Row_shortestRepeated_2, mm_C, mm_I, if_pos hr.1, hl.1, h1, if_neg (by decide), if_pos hr.1]
    rfl
  · rw [if_neg h0]
    exact c_root_loop hr hl hc (QI Q) (l.length - 1) 1 (by omega) (by omega)
def losP (l : List Nat) : Nat → Bool := fun k => !(g0 l k == g0 l (l.length - 1 - k) ^^^ 1)
def los (l : List Nat) : Nat := fs (losP l) (l.length / 2) 0
theorem los_le (l : List Nat) : 2 * los l ≤ l.length := by
  have := fs_le (losP l) (l.length / 2) 0
  unfold los
  omega
theorem c_lost_loop (hr : Rw r cp) (hl : Rl I r l) (hc : l.length ≤ cp) (Q : Option Value → Mem → Prop) : ∀ n k, k + n = l.length / 2 →
    (Wn (d + 1) i_Row_lostByBending 4 [(0, .ref r), (1, .int (nI k)), (2, .int (nI k))] [] (mm L I J) Q ↔ Q (some (.int (nI (fs (losP l) n k)))) (mm L I J)) := by
  have hcp := hr.2.2.2.2.2
  have e2 : ∀ k : Nat, (2 : Int32) * nI k + 1 = nI (2 * k + 1) := fun k => by
    have : (2 : Int32) = nI 2 := rfl
    rw [this, pk_mul, nI_1]
  intro n
  induction n with
  | zero =>
    intro k hk
    rw [H_Row_lostByBending_4, mm_C, mm_I, if_pos hr.1, hl.1, e2, if_neg (nI_nlt (by omega) (by omega))]
    rfl
  | succ n ih =>
    intro k hk
    have a1 := Rl_6 hl (show k < l.length by omega)
    have a2 := Rl_6 hl (show l.length - 1 - k < l.length by omega)
    have a3 := x1_lt a2
    rw [H_Row_lostByBending_4, mm_C, mm_I, if_pos hr.1, hl.1, e2, if_pos (nI_lt (by omega) (by omega)), if_pos hr.1, c_at hr hl hc (by omega), mm_C, if_pos hr.1, if_pos hr.1, mm_I, hl.1, nI_m1 (by omega), pk_sub (by omega), c_at hr hl hc (by omega), gt_lt (by omega), gt_lt (by omega), c_undoing a2, nI_1, ih (k + 1) (by omega)]
    by_cases e : l.getD k 0 = l.getD (l.length - 1 - k) 0 ^^^ 1
    · rw [if_pos (by rw [e]), fs_f (nb_f e)]
    · rw [if_neg (fun q => e ((nI_eq (by omega) (by omega)).mp q)), fs_t (nb_t e)]
theorem c_lost (hr : Rw r cp) (hl : Rl I r l) (hc : l.length ≤ cp) (Q : Int32 → Mem → Prop) : WI (d + 1) i_Row_lostByBending [.ref r] (mm L I J) Q ↔ Q (nI (los l)) (mm L I J) := by
  rw [E_Row_lostByBending]
  exact c_lost_loop hr hl hc (QI Q) (l.length / 2) 0 (by omega)
def rbP (l m : List Nat) (b a c z : Nat) : Nat → Bool := fun k => g0 l (a + (if b + k < z then b + k else b + k - z)) == g0 m (c + k)
theorem c_rb_loop (hr : Rw r cp) (ho : Rw o co) (hl : Rl I r l) (hm : Rl I o m) (hc : l.length ≤ cp) (hc2 : m.length ≤ co) {b a c z : Nat} (hb : b < z) (ha : a + z ≤ l.length) (hcz : c + z ≤ m.length) (Q : Option Value → Mem → Prop) : ∀ n k, k + n = z →
    (Wn (d + 1) i_Row_isRingBegunAt 3 [(0, .ref r), (1, .int (nI b)), (2, .ref o), (3, .int (nI a)), (4, .int (nI c)), (5, .int (nI z)), (6, .int (nI k))] [] (mm L I J) Q ↔ Q (some (.int (bI (alB (rbP l m b a c z) n k)))) (mm L I J)) := by
  have hcp := hr.2.2.2.2.2
  have hco := ho.2.2.2.2.2
  intro n
  induction n with
  | zero =>
    intro k hk
    rw [H_Row_isRingBegunAt_3, if_neg (nI_nlt (by omega) (by omega))]
    rfl
  | succ n ih =>
    intro k hk
    have a2 := Rl_6 hm (show c + k < m.length by omega)
    rw [H_Row_isRingBegunAt_3, if_pos (nI_lt (by omega) (by omega)), nI_add, mm_C, nI_add, nI_1]
    by_cases h : b + k < z
    · have a1 := Rl_6 hl (show a + (b + k) < l.length by omega)
      rw [if_pos (nI_lt h (by omega)), if_pos hr.1, nI_add, c_at hr hl hc (by omega), mm_C, if_pos ho.1, c_at ho hm hc2 (by omega), gt_lt (by omega), gt_lt (by omega), ih (k + 1) (by omega)]
      by_cases e : l.getD (a + (b + k)) 0 = m.getD (c + k) 0
      · rw [if_pos (by rw [e]), alB_t (by unfold rbP; rw [if_pos h]; exact eb_t e)]
      · rw [if_neg (fun q => e ((nI_eq (by omega) (by omega)).mp q)), alB_f (by unfold rbP; rw [if_pos h]; exact eb_f e)]
        rfl
    · have a1 := Rl_6 hl (show a + (b + k - z) < l.length by omega)
      rw [if_neg (nI_nlt (by omega) (by omega)), if_pos hr.1, pk_sub (by omega), nI_add, c_at hr hl hc (by omega), mm_C, if_pos ho.1, nI_add, c_at ho hm hc2 (by omega), gt_lt (by omega), gt_lt (by omega), ih (k + 1) (by omega)]
      by_cases e : l.getD (a + (b + k - z)) 0 = m.getD (c + k) 0
      · rw [if_pos (by rw [e]), alB_t (by unfold rbP; rw [if_neg h]; exact eb_t e)]
      · rw [if_neg (fun q => e ((nI_eq (by omega) (by omega)).mp q)), alB_f (by unfold rbP; rw [if_neg h]; exact eb_f e)]
        rfl
theorem c_rb (hr : Rw r cp) (ho : Rw o co) (hl : Rl I r l) (hm : Rl I o m) (hc : l.length ≤ cp) (hc2 : m.length ≤ co) {b a c z : Nat} (hb : b < z) (ha : a + z ≤ l.length) (hcz : c + z ≤ m.length) (Q : Int32 → Mem → Prop) : WI (d + 1) i_Row_isRingBegunAt [.ref r, .int (nI b), .ref o, .int (nI a), .int (nI c), .int (nI z)] (mm L I J) Q ↔ Q (bI (alB (rbP l m b a c z) z 0)) (mm L I J) := by
  rw [E_Row_isRingBegunAt]
  exact c_rb_loop hr ho hl hm hc hc2 hb ha hcz (QI Q) z 0 (by omega)
theorem c_ring_loop (hr : Rw r cp) (ho : Rw o co) (hl : Rl I r l) (hm : Rl I o m) (hc : l.length ≤ cp) (hc2 : m.length ≤ co) {a c z : Nat} (ha : a + z ≤ l.length) (hcz : c + z ≤ m.length) (Q : Option Value → Mem → Prop) : ∀ n k, k + n = z →
    (Wn (d + 2) i_Row_isRingOf 38 [(0, .ref r), (1, .ref o), (2, .int (nI a)), (3, .int (nI c)), (4, .int (nI z)), (5, .int (nI k))] [] (mm L I J) Q ↔ Q (some (.int (bI (anB (fun b => alB (rbP l m b a c z) z 0) n k || (z == 0))))) (mm L I J)) := by
  have hcp := hr.2.2.2.2.2
  have hco := ho.2.2.2.2.2
  intro n
  induction n with
  | zero =>
    intro k hk
    rw [H_Row_isRingOf_38, if_neg (nI_nlt (by omega) (by omega))]
    by_cases e : z = 0
    · rw [if_pos ((nI_z (by omega)).mpr e)]
      simp [anB, bI, e]
    · rw [if_neg (fun q => e ((nI_z (by omega)).mp q))]
      simp [anB, bI, e]
  | succ n ih =>
    intro k hk
    rw [H_Row_isRingOf_38, if_pos (nI_lt (by omega) (by omega)), mm_C, if_pos hr.1, c_rb hr ho hl hm hc hc2 (by omega) ha hcz, nI_1, ih (k + 1) (by omega)]
    by_cases e : alB (rbP l m k a c z) z 0 = true
    · rw [if_neg (fun q => by rw [bI_0.mp q] at e; cases e), anB_t (P := fun b => alB (rbP l m b a c z) z 0) e]
      rfl
    · have e : alB (rbP l m k a c z) z 0 = false := by simpa using e
      rw [if_pos (bI_0.mpr e), anB_f (P := fun b => alB (rbP l m b a c z) z 0) e]
def rngB (l m : List Nat) : Bool := (l.length - 2 * los l == m.length - 2 * los m) && (anB (fun b => alB (rbP l m b (los l) (los m) (l.length - 2 * los l)) (l.length - 2 * los l) 0) (l.length - 2 * los l) 0 || (l.length - 2 * los l == 0))
theorem c_ring (hr : Rw r cp) (ho : Rw o co) (hl : Rl I r l) (hm : Rl I o m) (hc : l.length ≤ cp) (hc2 : m.length ≤ co) (Q : Int32 → Mem → Prop) : WI (d + 2) i_Row_isRingOf [.ref r, .ref o] (mm L I J) Q ↔ Q (bI (rngB l m)) (mm L I J) := by
  have hcp := hr.2.2.2.2.2
  have hco := ho.2.2.2.2.2
  have h1 := los_le l
  have h2 := los_le m
  have e2 : ∀ k : Nat, (2 : Int32) * nI k = nI (2 * k) := fun k => pk_mul 2 k
  rw [E_Row_isRingOf, mm_C, if_pos hr.1, c_lost hr hl hc, mm_C, if_pos ho.1, c_lost ho hm hc2, mm_C, if_pos hr.1, if_pos ho.1, mm_I, hl.1, hm.1, e2, e2, pk_sub h1, pk_sub h2]
  unfold rngB
  by_cases e : l.length - 2 * los l = m.length - 2 * los m
  · rw [if_pos (by rw [e]), eb_t e, Bool.true_and]
    exact c_ring_loop hr ho hl hm hc hc2 (by omega) (by omega) (QI Q) (l.length - 2 * los l) 0 (by omega)
  · rw [if_neg (fun q => e ((nI_eq (by omega) (by omega)).mp q)), eb_f e, Bool.false_and]
    rfl
end RowF
