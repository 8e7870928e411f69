/-! ===== loops as functions of a predicate on places ===== -/
/-- the first place from k on, n places at most, where P is; else k + n -/
def fs (P : Nat → Bool) : Nat → Nat → Nat
  | 0, k => k
  | n + 1, k => if P k = true then k else fs P n (k + 1)
def cnt (P : Nat → Bool) : Nat → Nat → Nat
  | 0, _ => 0
  | n + 1, k => (if P k = true then 1 else 0) + cnt P n (k + 1)
def alB (P : Nat → Bool) : Nat → Nat → Bool
  | 0, _ => true
  | n + 1, k => if P k = true then alB P n (k + 1) else false
def anB (P : Nat → Bool) : Nat → Nat → Bool
  | 0, _ => false
  | n + 1, k => if P k = true then true else anB P n (k + 1)
def bI (b : Bool) : Int32 := if b = true then 1 else 0
theorem fs_t {P : Nat → Bool} {n k : Nat} (h : P k = true) : fs P (n + 1) k = k := by show (if P k = true then k else fs P n (k + 1)) = _; rw [if_pos h]
theorem fs_f {P : Nat → Bool} {n k : Nat} (h : P k = false) : fs P (n + 1) k = fs P n (k + 1) := by show (if P k = true then k else fs P n (k + 1)) = _; rw [if_neg (by rw [h]; decide)]
theorem cnt_t {P : Nat → Bool} {n k : Nat} (h : P k = true) : cnt P (n + 1) k = 1 + cnt P n (k + 1) := by show (if P k = true then 1 else 0) + cnt P n (k + 1) = _; rw [if_pos h]
theorem cnt_f {P : Nat → Bool} {n k : Nat} (h : P k = false) : cnt P (n + 1) k = cnt P n (k + 1) := by show (if P k = true then 1 else 0) + cnt P n (k + 1) = _; rw [if_neg (by rw [h]; decide), Nat.zero_add]
theorem alB_t {P : Nat → Bool} {n k : Nat} (h : P k = true) : alB P (n + 1) k = alB P n (k + 1) := by show (if P k = true then alB P n (k + 1) else false) = _; rw [if_pos h]
theorem alB_f {P : Nat → Bool} {n k : Nat} (h : P k = false) : alB P (n + 1) k = false := by show (if P k = true then alB P n (k + 1) else false) = _; rw [if_neg (by rw [h]; decide)]
theorem anB_t {P : Nat → Bool} {n k : Nat} (h : P k = true) : anB P (n + 1) k = true := by show (if P k = true then true else anB P n (k + 1)) = _; rw [if_pos h]
theorem anB_f {P : Nat → Bool} {n k : Nat} (h : P k = false) : anB P (n + 1) k = anB P n (k + 1) := by show (if P k = true then true else anB P n (k + 1)) = _; rw [if_neg (by rw [h]; decide)]
theorem nb_t {a b : Nat} (h : a ≠ b) : (!(a == b)) = true := by simp [h]
theorem nb_f {a b : Nat} (h : a = b) : (!(a == b)) = false := by simp [h]
theorem eb_t {a b : Nat} (h : a = b) : (a == b) = true := by simp [h]
theorem eb_f {a b : Nat} (h : a ≠ b) : (a == b) = false := by simp [h]
theorem fs_le (P : Nat → Bool) : ∀ n k, k ≤ fs P n k ∧ fs P n k ≤ k + n := by
  intro n
  induction n with
  | zero => intro k; exact ⟨Nat.le_refl _, Nat.le_refl _⟩
  | succ n ih =>
    intro k
    unfold fs
    split
    · omega
    · have := ih (k + 1); omega
theorem cnt_le (P : Nat → Bool) : ∀ n k, cnt P n k ≤ n := by
  intro n
  induction n with
  | zero => intro k; exact Nat.le_refl _
  | succ n ih =>
    intro k
    unfold cnt
    have := ih (k + 1)
    split <;> omega
theorem dif {c : Prop} [Decidable c] {A B : Prop} (h : c) (a : A) : (if c then A else B) := by rw [if_pos h]; exact a
def g0 (l : List Nat) (k : Nat) : Nat := l.getD k 0
section RowE
variable {d r cp o co L : Nat} {I : Nat → Nat → Int32} {J : Nat → Nat → Int64} {l m : List Nat}
theorem c_common_loop (hr : Rw r cp) (ho : Rw o co) (hl : Rl I r l) (hm : Rl I o m) (hc : l.length ≤ cp) (hc2 : m.length ≤ co) {sh : Nat} (h1 : sh ≤ l.length) (h2 : sh ≤ m.length) (Q : Option Value → Mem → Prop) : ∀ n k, k + n = sh →
    (Wn (d + 1) i_Row_commonStart 14 [(0, .ref r), (1, .ref o), (2, .int (nI sh)), (3, .int (nI k))] [] (mm L I J) Q ↔ Q (some (.int (nI (fs (fun j => !(g0 l j == g0 m j)) n k)))) (mm L I J)) := by
  have hcp := hr.2.2.2.2.2
  have hco := ho.2.2.2.2.2
  intro n
  induction n with
  | zero =>
    intro k hk
    rw [H_Row_commonStart_14, if_neg (nI_nlt (by omega) (by omega))]
    unfold fs
    rw [show sh = k by omega]
  | succ n ih =>
    intro k hk
    have a1 := Rl_6 hl (show k < l.length by omega)
    have a2 := Rl_6 hm (show k < m.length by omega)
    rw [H_Row_commonStart_14, if_pos (nI_lt (by omega) (by omega)), mm_C, if_pos hr.1, c_at hr hl hc (by omega), mm_C, if_pos ho.1, c_at ho hm hc2 (by omega), gt_lt (by omega), gt_lt (by omega), nI_1, ih (k + 1) (by omega)]
    by_cases e : l.getD k 0 = m.getD k 0
    · rw [if_pos (by rw [e]), fs_f (nb_f e)]
    · rw [if_neg (fun q => e ((nI_eq (by omega) (by omega)).mp q)), fs_t (nb_t e)]
def lcp (l m : List Nat) : Nat := fs (fun j => !(g0 l j == g0 m j)) (min l.length m.length) 0
theorem lcp_le (l m : List Nat) : lcp l m ≤ l.length ∧ lcp l m ≤ m.length := by
  have := fs_le (fun j => !(g0 l j == g0 m j)) (min l.length m.length) 0
  unfold lcp
  omega
theorem c_common (hr : Rw r cp) (ho : Rw o co) (hl : Rl I r l) (hm : Rl I o m) (hc : l.length ≤ cp) (hc2 : m.length ≤ co) (Q : Int32 → Mem → Prop) : WI (d + 1) i_Row_commonStart [.ref r, .ref o] (mm L I J) Q ↔ Q (nI (lcp l m)) (mm L I J) := by
  have hcp := hr.2.2.2.2.2
  have hco := ho.2.2.2.2.2
  have e : (if nI m.length < nI l.length then nI m.length else nI l.length) = nI (min l.length m.length) := by
    by_cases h : m.length < l.length
    · rw [if_pos (nI_lt h (by omega)), Nat.min_eq_right (by omega)]
    · rw [if_neg (nI_nlt (by omega) (by omega)), Nat.min_eq_left (by omega)]
  rw [E_Row_commonStart, mm_C, mm_I, if_pos hr.1, if_pos ho.1, hl.1, hm.1, e]
  exact c_common_loop hr ho hl hm hc hc2 (Nat.min_le_left _ _) (Nat.min_le_right _ _) (QI Q) (min l.length m.length) 0 (by omega)
theorem fs_all {P : Nat → Bool} : ∀ n k, fs P n k = k + n ↔ ∀ j, k ≤ j → j < k + n → P j = false := by
  intro n
  induction n with
  | zero => intro k; exact ⟨fun _ j h1 h2 => by omega, fun _ => rfl⟩
  | succ n ih =>
    intro k
    unfold fs
    by_cases h : P k = true
    · rw [if_pos h]
      constructor
      · intro q; omega
      · intro q; have := q k (Nat.le_refl _) (by omega); rw [h] at this; cases this
    · rw [if_neg h, show k + (n + 1) = k + 1 + n by omega, ih (k + 1)]
      constructor
      · intro q j h1 h2
        by_cases e : j = k
        · rw [e]; exact Bool.not_eq_true _ |>.mp h
        · exact q j (by omega) h2
      · intro q j h1 h2
        exact q j (by omega) h2
theorem lcp_eq {l m : List Nat} (h : l.length = m.length) : lcp l m = l.length ↔ l = m := by
  unfold lcp
  have := fs_all (P := fun j => !(g0 l j == g0 m j)) (min l.length m.length) 0
  rw [show 0 + min l.length m.length = l.length by omega] at this
  rw [this]
  constructor
  · intro q
    apply List.ext_getElem h
    intro j h1 h2
    have := q j (by omega) h1
    simp [g0, h1, h2] at this
    exact this
  · intro q j _ _
    rw [q]
    simp
theorem c_isLike (hr : Rw r cp) (ho : Rw o co) (hl : Rl I r l) (hm : Rl I o m) (hc : l.length ≤ cp) (hc2 : m.length ≤ co) (Q : Int32 → Mem → Prop) : WI (d + 2) i_Row_isLike [.ref r, .ref o] (mm L I J) Q ↔ Q (bI (decide (l = m))) (mm L I J) := by
  have hcp := hr.2.2.2.2.2
  have hco := ho.2.2.2.2.2
  rw [E_Row_isLike, mm_C, mm_I, if_pos hr.1, if_pos ho.1, hl.1, hm.1]
  by_cases e : l.length = m.length
  · have hle := lcp_le l m
    rw [if_pos (by rw [e]), if_pos hr.1, c_common hr ho hl hm hc hc2, mm_C, if_pos hr.1, mm_I, hl.1]
    by_cases e2 : l = m
    · rw [if_pos (by rw [(lcp_eq e).mpr e2])]
      simp [bI, e2]
    · rw [if_neg (fun q => e2 ((lcp_eq e).mp ((nI_eq (by omega) (by omega)).mp q)))]
      simp [bI, e2]
  · rw [if_neg (fun q => e ((nI_eq (by omega) (by omega)).mp q))]
    have : ¬ l = m := fun q => e (by rw [q])
    simp [bI, this]
theorem c_compare (M : Mem) (Q : Int32 → Mem → Prop) (x y : Int32) : WI d i_JInt_compare [.int x, .int y] M Q ↔ Q (if x < y then -1 else if x = y then 0 else 1) M := by
  rw [E_JInt_compare]
  by_cases h : x < y
  · rw [if_pos h, if_pos h]
  · rw [if_neg h, if_neg h]
    by_cases h2 : x = y
    · rw [if_pos h2, if_pos h2]
    · rw [if_neg h2, if_neg h2]
/-- -1, 0, 1: by length, then by turns -/
def cmpR (l m : List Nat) : Int32 := if l.length = m.length then (if gt l (lcp l m) < gt m (lcp l m) then -1 else if gt l (lcp l m) = gt m (lcp l m) then 0 else 1) else (if l.length < m.length then -1 else 1)
theorem c_cmpR (hr : Rw r cp) (ho : Rw o co) (hl : Rl I r l) (hm : Rl I o m) (hc : l.length ≤ cp) (hc2 : m.length ≤ co) (Q : Int32 → Mem → Prop) : WI (d + 2) i_Row_compareWith [.ref r, .ref o] (mm L I J) Q ↔ Q (cmpR l m) (mm L I J) := by
  have hcp := hr.2.2.2.2.2
  have hco := ho.2.2.2.2.2
  have hle := lcp_le l m
  rw [E_Row_compareWith, mm_C, mm_I, if_pos hr.1, if_pos ho.1, hl.1, hm.1]
  unfold cmpR
  by_cases e : l.length = m.length
  · rw [if_pos (by rw [e]), if_pos hr.1, c_common hr ho hl hm hc hc2, mm_C, if_pos hr.1, c_at hr hl hc (by omega), mm_C, if_pos ho.1, c_at ho hm hc2 (by omega), c_compare, if_pos e]
  · rw [if_neg (fun q => e ((nI_eq (by omega) (by omega)).mp q)), if_pos hr.1, if_pos ho.1, c_compare, if_neg e]
    by_cases h : l.length < m.length
    · rw [if_pos (nI_lt h (by omega)), if_pos h]
    · rw [if_neg (nI_nlt (by omega) (by omega)), if_neg (fun q => e ((nI_eq (by omega) (by omega)).mp q)), if_neg h]
theorem c_diff_loop (hr : Rw r cp) (ho : Rw o co) (hl : Rl I r l) (hm : Rl I o m) (hc : l.length ≤ cp) (hc2 : m.length ≤ co) (he : l.length = m.length) (Q : Option Value → Mem → Prop) : ∀ n k c, k + n = l.length → c ≤ k →
    (Wn (d + 1) i_Row_differences 4 [(0, .ref r), (1, .ref o), (2, .int (nI c)), (3, .int (nI k))] [] (mm L I J) Q ↔ Q (some (.int (nI (c + cnt (fun j => !(g0 l j == g0 m j)) n k)))) (mm L I J)) := by
  have hcp := hr.2.2.2.2.2
  have hco := ho.2.2.2.2.2
  intro n
  induction n with
  | zero =>
    intro k c hk hck
    rw [H_Row_differences_4, mm_C, mm_I, if_pos hr.1, hl.1, if_neg (nI_nlt (by omega) (by omega))]
    rfl
  | succ n ih =>
    intro k c hk hck
    have a1 := Rl_6 hl (show k < l.length by omega)
    have a2 := Rl_6 hm (show k < m.length by omega)
    rw [H_Row_differences_4, mm_C, mm_I, if_pos hr.1, hl.1, if_pos (nI_lt (by omega) (by omega)), if_pos hr.1, c_at hr hl hc (by omega), mm_C, if_pos ho.1, c_at ho hm hc2 (by omega), gt_lt (by omega), gt_lt (by omega), nI_1, nI_1, ih (k + 1) c (by omega) (by omega), ih (k + 1) (c + 1) (by omega) (by omega)]
    by_cases e : l.getD k 0 = m.getD k 0
    · rw [if_pos (by rw [e]), cnt_f (nb_f e)]
    · rw [if_neg (fun q => e ((nI_eq (by omega) (by omega)).mp q)), cnt_t (nb_t e), Nat.add_assoc]
def difs (l m : List Nat) : Nat := cnt (fun j => !(g0 l j == g0 m j)) l.length 0
theorem c_diff (hr : Rw r cp) (ho : Rw o co) (hl : Rl I r l) (hm : Rl I o m) (hc : l.length ≤ cp) (hc2 : m.length ≤ co) (he : l.length = m.length) (Q : Int32 → Mem → Prop) : WI (d + 1) i_Row_differences [.ref r, .ref o] (mm L I J) Q ↔ Q (nI (difs l m)) (mm L I J) := by
  rw [E_Row_differences]
  have := c_diff_loop (d := d) (L := L) (J := J) hr ho hl hm hc hc2 he (QI Q) l.length 0 0 (by omega) (by omega)
  rw [Nat.zero_add] at this
  exact this
end RowE
