/-! ===== memory behind the constructors: what reads and writes are ===== -/
section MM
variable (L : Nat) (I : Nat → Nat → Int32) (J : Nat → Nat → Int64)
theorem mm_C : mC (mm L I J) = CL := rfl
theorem mm_L : mL (mm L I J) = LN L := rfl
theorem mm_I : mI (mm L I J) = I := rfl
theorem mm_J : mJ (mm L I J) = J := rfl
theorem mm_R : mR (mm L I J) = RR := rfl
theorem mm_sI (a k : Nat) (v : Int32) : setI (mm L I J) a k v = mm L (up2 I a k v) J := rfl
theorem mm_sJ (a k : Nat) (v : Int64) : setJ (mm L I J) a k v = mm L I (up2 J a k v) := rfl
end MM
/-- r is a row with room for cp turns; its turns lie in the next cell -/
def Rw (r cp : Nat) : Prop := CL r = 4 ∧ RR r 0 = r + 1 ∧ CL (r + 1) = 10 ∧ lnL.getD (r + 1) 0 = cp ∧ r < 262 ∧ cp ≤ 72
theorem Rw_LN {r cp : Nat} (h : Rw r cp) (L : Nat) : LN L (r + 1) = cp := by
  unfold LN
  rw [if_neg (by have := h.2.2.2.2.1; omega), if_neg (by have := h.2.2.2.2.1; omega)]
  exact h.2.2.2.1
/-- the row r holds the turns l -/
def Rl (I : Nat → Nat → Int32) (r : Nat) (l : List Nat) : Prop := I r 1 = nI l.length ∧ (∀ k, k < l.length → I (r + 1) k = nI (l.getD k 0)) ∧ ∀ x ∈ l, x < 6
def gt (l : List Nat) (j : Nat) : Int32 := if j < l.length then nI (l.getD j 0) else -9
theorem inb_nI {j n : Nat} (h : j < n) (hn : n < 2 ^ 31) : inb (nI j) n := nI_in h hn
theorem ix_nI {j : Nat} (h : j < 2 ^ 31) : (nI j).toNatClampNeg = j := nI_clamp h
theorem Rl_6 {I : Nat → Nat → Int32} {r : Nat} {l : List Nat} (h : Rl I r l) {k : Nat} (hk : k < l.length) : l.getD k 0 < 6 := by
  apply h.2.2
  rw [List.getD_eq_getElem?_getD, List.getElem?_eq_getElem hk]
  exact List.getElem_mem hk
/-- nothing changes outside of row r -/
def Fr1 (r : Nat) (I I' : Nat → Nat → Int32) : Prop := ∀ a, a ≠ r → a ≠ r + 1 → I' a = I a
theorem Fr1_rf (r : Nat) (I : Nat → Nat → Int32) : Fr1 r I I := fun _ _ _ => rfl
theorem Fr1_tr {r : Nat} {I I' I'' : Nat → Nat → Int32} (h : Fr1 r I I') (h2 : Fr1 r I' I'') : Fr1 r I I'' := fun a h1 h3 => (h2 a h1 h3).trans (h a h1 h3)
theorem Rl_keep {I I' : Nat → Nat → Int32} {r : Nat} {l : List Nat} (h : Rl I r l) (h1 : I' r = I r) (h2 : I' (r + 1) = I (r + 1)) : Rl I' r l := ⟨by rw [h1]; exact h.1, fun k hk => by rw [h2]; exact h.2.1 k hk, h.2.2⟩
theorem Rw_ne {r o cr co : Nat} (hr : Rw r cr) (ho : Rw o co) (h : r ≠ o) : r ≠ o + 1 ∧ r + 1 ≠ o ∧ r + 1 ≠ o + 1 := by
  refine ⟨fun e => ?_, fun e => ?_, by omega⟩
  · have h1 := hr.1
    rw [e, ho.2.2.1] at h1
    omega
  · have h1 := ho.1
    rw [← e, hr.2.2.1] at h1
    omega
theorem Rl_fr {I I' : Nat → Nat → Int32} {r o cr co : Nat} {l : List Nat} (hr : Rw r cr) (ho : Rw o co) (hne : r ≠ o) (hF : Fr1 r I I') (h : Rl I o l) : Rl I' o l := by
  obtain ⟨a1, a2, a3⟩ := Rw_ne hr ho hne
  exact Rl_keep h (hF o (Ne.symm hne) (Ne.symm a2)) (hF (o + 1) (Ne.symm a1) (Ne.symm a3))
def tie (l : List Nat) (t : Nat) : List Nat := if l.getLast? = some (t ^^^ 1) then l.dropLast else l ++ [t]
def tieAll (l ts : List Nat) : List Nat := ts.foldl tie l
theorem x1_lt {t : Nat} (h : t < 6) : t ^^^ 1 < 6 := by
  rcases (show t = 0 ∨ t = 1 ∨ t = 2 ∨ t = 3 ∨ t = 4 ∨ t = 5 by omega) with rfl | rfl | rfl | rfl | rfl | rfl <;> decide
theorem x1_x1 (t : Nat) : (t ^^^ 1) ^^^ 1 = t := by rw [Nat.xor_assoc, Nat.xor_self, Nat.xor_zero]
theorem nI_x1 {t : Nat} (h : t < 6) : nI t ^^^ 1 = nI (t ^^^ 1) := by
  rcases (show t = 0 ∨ t = 1 ∨ t = 2 ∨ t = 3 ∨ t = 4 ∨ t = 5 by omega) with rfl | rfl | rfl | rfl | rfl | rfl <;> decide
theorem tie_6 {l : List Nat} {t : Nat} (h : ∀ x ∈ l, x < 6) (ht : t < 6) : ∀ x ∈ tie l t, x < 6 := by
  intro x hx
  unfold tie at hx
  split at hx
  · exact h x ((List.dropLast_sublist l).subset hx)
  · rcases List.mem_append.mp hx with q | q
    · exact h x q
    · rw [List.mem_singleton.mp q]; exact ht
theorem tie_len (l : List Nat) (t : Nat) : (tie l t).length ≤ l.length + 1 := by
  unfold tie
  split
  · rw [List.length_dropLast]; omega
  · rw [List.length_append]; exact Nat.le_refl _
theorem tieAll_6 : ∀ {ts l : List Nat}, (∀ x ∈ l, x < 6) → (∀ x ∈ ts, x < 6) → ∀ x ∈ tieAll l ts, x < 6 := by
  intro ts
  induction ts with
  | nil => intro l h _ ; exact h
  | cons t r ih => intro l h ht; exact ih (tie_6 h (ht t List.mem_cons_self)) (fun x hx => ht x (List.mem_cons_of_mem _ hx))
theorem tieAll_len : ∀ (ts l : List Nat), (tieAll l ts).length ≤ l.length + ts.length := by
  intro ts
  induction ts with
  | nil => intro l; exact Nat.le_refl _
  | cons t r ih =>
    intro l
    have h1 := ih (tie l t)
    have h2 := tie_len l t
    show (tieAll (tie l t) r).length ≤ _
    rw [List.length_cons]
    omega
theorem last_getD {l : List Nat} (h : 0 < l.length) : l.getLast? = some (l.getD (l.length - 1) 0) := by
  rw [List.getLast?_eq_getElem?, List.getD_eq_getElem?_getD, List.getElem?_eq_getElem (by omega)]
  rfl
theorem getD_drop {l : List Nat} {k : Nat} (h : k < l.length - 1) : l.dropLast.getD k 0 = l.getD k 0 := by
  rw [List.getD_eq_getElem?_getD, List.getD_eq_getElem?_getD, List.getElem?_dropLast, if_pos h]
theorem getD_app {l : List Nat} {k t : Nat} (h : k < l.length) : (l ++ [t]).getD k 0 = l.getD k 0 := by
  rw [List.getD_eq_getElem?_getD, List.getD_eq_getElem?_getD, List.getElem?_append_left h]
theorem getD_end {l : List Nat} {t : Nat} : (l ++ [t]).getD l.length 0 = t := by
  rw [List.getD_eq_getElem?_getD, List.getElem?_append_right (Nat.le_refl _), Nat.sub_self]
  rfl
section RowC
variable {d r cp L : Nat} {I : Nat → Nat → Int32} {J : Nat → Nat → Int64} {l : List Nat}
theorem c_at (hr : Rw r cp) (hl : Rl I r l) (hc : l.length ≤ cp) {j : Nat} (hj : j < 2 ^ 31) (Q : Int32 → Mem → Prop) : WI d i_Row_at [.ref r, .int (nI j)] (mm L I J) Q ↔ Q (gt l j) (mm L I J) := by
  obtain ⟨r1, r2, r3, r4, r5, r6⟩ := id hr
  have r4 := Rw_LN hr L
  rw [E_Row_at, if_neg (nI_pos hj), mm_C, mm_R, mm_L, mm_I, if_pos r1, r2, r3, r4, hl.1]
  unfold gt
  by_cases h : j < l.length
  · rw [if_pos (nI_lt h (by omega)), if_pos r1, if_neg (by omega), if_pos ⟨Or.inl rfl, inb_nI (by omega) (by omega)⟩, ix_nI hj, hl.2.1 j h, if_pos h]
  · rw [if_neg (nI_nlt (by omega) hj), if_neg h]
theorem c_at0 (Q : Int32 → Mem → Prop) {M : Mem} {k : Int32} (hk : k < 0) : WI d i_Row_at [.ref r, .int k] M Q ↔ Q (-9) M := by
  rw [E_Row_at, if_pos hk]
theorem c_last (hr : Rw r cp) (hl : Rl I r l) (hc : l.length ≤ cp) (h0 : 0 < l.length) (Q : Int32 → Mem → Prop) : WI (d + 1) i_Row_last [.ref r] (mm L I J) Q ↔ Q (nI (l.getD (l.length - 1) 0)) (mm L I J) := by
  obtain ⟨r1, r2, r3, r4, r5, r6⟩ := id hr
  have e : nI l.length - 1 = nI (l.length - 1) := by
    have := nI_pred (l.length - 1)
    rw [show l.length - 1 + 1 = l.length by omega] at this
    exact this
  rw [E_Row_last, mm_C, mm_I, if_pos r1, if_pos r1, hl.1, e, c_at hr hl hc (by omega)]
  unfold gt
  rw [if_pos (by omega)]
theorem c_empty (hr : Rw r cp) (hl : Rl I r l) (Q : Int32 → Mem → Prop) (h : ∀ I', Rl I' r [] → Fr1 r I I' → Q (nI l.length) (mm L I' J)) : WI d i_Row_empty [.ref r] (mm L I J) Q := by
  obtain ⟨r1, r2, r3, r4, r5, r6⟩ := id hr
  rw [E_Row_empty, mm_C, mm_I, if_pos r1, if_pos r1, hl.1, mm_sI]
  refine h _ ⟨by rw [up2_same]; rfl, fun k hk => absurd hk (Nat.not_lt_zero k), fun x hx => by cases hx⟩ (fun a h1 h2 => up2_ne _ _ _ h1)
theorem c_append (hr : Rw r cp) (hl : Rl I r l) (hc : l.length < cp) {t : Nat} (ht : t < 6) (Q : Mem → Prop) (h : ∀ I', Rl I' r (l ++ [t]) → Fr1 r I I' → Q (mm L I' J)) : WV d i_Row_append [.ref r, .int (nI t)] (mm L I J) Q := by
  obtain ⟨r1, r2, r3, r4, r5, r6⟩ := id hr
  have r4 := Rw_LN hr L
  rw [E_Row_append, mm_C, mm_R, mm_L, mm_I, if_pos r1, if_pos r1, r2, if_neg (by omega), r3, if_pos (Or.inl rfl), r4, hl.1, if_pos (nI_lt hc (by omega)), if_pos r1, if_neg (by omega), if_pos r1, if_pos ⟨rfl, inb_nI hc (by omega)⟩, mm_sI, mm_C, if_pos r1, if_pos r1, mm_I, mm_sI, ix_nI (by omega), up2_ne _ _ _ (show r ≠ r + 1 by omega), hl.1, nI_1]
  refine h _ ⟨?_, fun k hk => ?_, ?_⟩ (fun a h1 h2 => ?_)
  · rw [up2_same, List.length_append]
    rfl
  · rw [up2_ne _ _ _ (show r + 1 ≠ r by omega)]
    rw [List.length_append, List.length_singleton] at hk
    by_cases e : k = l.length
    · rw [e, up2_same, getD_end]
    · rw [up2_other _ _ _ e, getD_app (by omega), hl.2.1 k (by omega)]
  · intro x hx
    rcases List.mem_append.mp hx with q | q
    · exact hl.2.2 x q
    · rw [List.mem_singleton.mp q]; exact ht
  · rw [up2_ne _ _ _ h1, up2_ne _ _ _ h2]
theorem c_dropLast (hr : Rw r cp) (hl : Rl I r l) (hc : l.length ≤ cp) (Q : Mem → Prop) (h : ∀ I', Rl I' r l.dropLast → Fr1 r I I' → Q (mm L I' J)) : WV d i_Row_dropLast [.ref r] (mm L I J) Q := by
  obtain ⟨r1, r2, r3, r4, r5, r6⟩ := id hr
  rw [E_Row_dropLast, mm_C, mm_I, if_pos r1, hl.1]
  by_cases h0 : 0 < l.length
  · have e : nI l.length - 1 = nI (l.length - 1) := by
      have := nI_pred (l.length - 1)
      rw [show l.length - 1 + 1 = l.length by omega] at this
      exact this
    have hp : (0 : Int32) < nI l.length := by
      have := nI_lt h0 (show l.length < 2 ^ 31 by omega)
      rw [nI_0] at this
      exact this
    rw [if_pos hp, if_pos r1, if_pos r1, e, mm_sI]
    refine h _ ⟨?_, fun k hk => ?_, fun x hx => hl.2.2 x ((List.dropLast_sublist l).subset hx)⟩ (fun a h1 h2 => up2_ne _ _ _ h1)
    · rw [up2_same, List.length_dropLast]
    · rw [List.length_dropLast] at hk
      rw [up2_ne _ _ _ (show r + 1 ≠ r by omega), getD_drop hk, hl.2.1 k (by omega)]
  · have e0 : l = [] := List.eq_nil_of_length_eq_zero (by omega)
    subst e0
    have hn : ¬ (0 : Int32) < nI ([] : List Nat).length := by decide
    rw [if_neg hn]
    exact h I hl (Fr1_rf r I)
theorem c_undoing {t : Nat} (ht : t < 6) (M : Mem) (Q : Int32 → Mem → Prop) : WI d i_KN_undoing [.int (nI t)] M Q ↔ Q (nI (t ^^^ 1)) M := by
  rw [E_KN_undoing, nI_x1 ht]
theorem c_endsU (hr : Rw r cp) (hl : Rl I r l) (hc : l.length ≤ cp) {t : Nat} (ht : t < 6) (Q : Int32 → Mem → Prop) : WI (d + 1) i_Row_endsUndoing [.ref r, .int (nI t)] (mm L I J) Q ↔ Q (if l.getLast? = some (t ^^^ 1) then 1 else 0) (mm L I J) := by
  obtain ⟨r1, r2, r3, r4, r5, r6⟩ := id hr
  have r4 := Rw_LN hr L
  rw [E_Row_endsUndoing, mm_C, mm_R, mm_L, mm_I, if_pos r1, hl.1]
  by_cases h0 : 0 < l.length
  · have e : nI l.length - 1 = nI (l.length - 1) := by
      have := nI_pred (l.length - 1)
      rw [show l.length - 1 + 1 = l.length by omega] at this
      exact this
    have hp : (0 : Int32) < nI l.length := by
      have := nI_lt h0 (show l.length < 2 ^ 31 by omega)
      rw [nI_0] at this
      exact this
    have h6 := Rl_6 hl (show l.length - 1 < l.length by omega)
    have h7 := x1_lt ht
    rw [if_pos hp, if_pos r1, r2, if_neg (by omega), if_pos r1, r3, r4, e, if_pos ⟨Or.inl rfl, inb_nI (by omega) (by omega)⟩, c_undoing ht, ix_nI (by omega), hl.2.1 _ (by omega), last_getD h0]
    by_cases h8 : l.getD (l.length - 1) 0 = t ^^^ 1
    · rw [if_pos (by rw [h8]), if_pos (by rw [h8])]
    · rw [if_neg (fun q => h8 ((nI_eq (by omega) (by omega)).mp q)), if_neg (fun q => h8 (Option.some.inj q))]
  · have e0 : l = [] := List.eq_nil_of_length_eq_zero (by omega)
    subst e0
    have hn : ¬ (0 : Int32) < nI ([] : List Nat).length := by decide
    rw [if_neg hn]
    rfl
theorem c_takes (hr : Rw r cp) (hl : Rl I r l) (hc : l.length ≤ cp) {t : Nat} (ht : t < 6) (Q : Int32 → Mem → Prop) : WI (d + 2) i_Row_takesTight [.ref r, .int (nI t)] (mm L I J) Q ↔ Q (if l.length < cp ∨ l.getLast? = some (t ^^^ 1) then 1 else 0) (mm L I J) := by
  obtain ⟨r1, r2, r3, r4, r5, r6⟩ := id hr
  have r4 := Rw_LN hr L
  rw [E_Row_takesTight, mm_C, mm_R, mm_L, mm_I, if_pos r1, if_pos r1, r2, if_neg (by omega), r3, if_pos (Or.inl rfl), r4, hl.1]
  by_cases h0 : l.length < cp
  · rw [if_pos (nI_lt h0 (by omega)), if_pos (Or.inl h0)]
  · rw [if_neg (nI_nlt (by omega) (by omega)), if_pos r1, c_endsU hr hl hc ht]
    by_cases h1 : l.getLast? = some (t ^^^ 1)
    · rw [if_pos h1, if_neg (by decide), if_pos (Or.inr h1)]
    · rw [if_neg h1, if_pos rfl, if_neg (by simp [h0, h1])]
theorem c_tie (hr : Rw r cp) (hl : Rl I r l) {t : Nat} (hc : l.length ≤ cp) (hc2 : (tie l t).length ≤ cp) (ht : t < 6) (Q : Mem → Prop) (h : ∀ I', Rl I' r (tie l t) → Fr1 r I I' → Q (mm L I' J)) : WV (d + 2) i_Row_appendTight [.ref r, .int (nI t)] (mm L I J) Q := by
  obtain ⟨r1, r2, r3, r4, r5, r6⟩ := id hr
  rw [E_Row_appendTight, mm_C, if_pos r1, c_endsU hr hl hc ht]
  unfold tie at h hc2
  by_cases h1 : l.getLast? = some (t ^^^ 1)
  · rw [if_pos h1, if_neg (by decide), mm_C, if_pos r1]
    rw [if_pos h1] at h
    exact c_dropLast hr hl hc Q h
  · rw [if_neg h1, if_pos rfl, mm_C, if_pos r1]
    rw [if_neg h1] at h hc2
    rw [List.length_append, List.length_singleton] at hc2
    exact c_append hr hl (by omega) ht Q h
end RowC
/-- ints of a loop's counter -/
theorem lt_nI {a b : Nat} (ha : a < 2 ^ 31) (hb : b < 2 ^ 31) : (nI a < nI b) = (a < b) := propext (nI_ltI ha hb)
theorem eq_nI {a b : Nat} (ha : a < 2 ^ 31) (hb : b < 2 ^ 31) : (nI a = nI b) = (a = b) := propext (nI_eq ha hb)
section RowD
variable {d r cp L : Nat} {J : Nat → Nat → Int64}
theorem gt_lt {l : List Nat} {k : Nat} (h : k < l.length) : gt l k = nI (l.getD k 0) := by unfold gt; rw [if_pos h]
theorem drop_cons {m : List Nat} {k : Nat} (h : k < m.length) : m.drop k = m.getD k 0 :: m.drop (k + 1) := by
  rw [List.getD_eq_getElem?_getD, List.getElem?_eq_getElem h]
  exact List.drop_eq_getElem_cons h
theorem c_tieAll_loop {o co : Nat} (hr : Rw r cp) (ho : Rw o co) (hne : r ≠ o) {m : List Nat} (hm : m.length ≤ co) (Q : Option Value → Mem → Prop) : ∀ (n k : Nat) (I : Nat → Nat → Int32) (l : List Nat), k + n = m.length → Rl I r l → Rl I o m → l.length + n ≤ cp → (∀ I', Rl I' r (tieAll l (m.drop k)) → Fr1 r I I' → Q none (mm L I' J)) →
    Wn (d + 3) i_Row_appendAllTight 2 [(0, .ref r), (1, .ref o), (2, .int (nI k))] [] (mm L I J) Q := by
  intro n
  induction n with
  | zero =>
    intro k I l hk hl hm2 hc h
    rw [H_Row_appendAllTight_2, mm_C, mm_I, if_pos ho.1, hm2.1, if_neg (nI_nlt (by omega) (by have := ho.2.2.2.2.2; omega))]
    have : m.drop k = [] := List.drop_eq_nil_of_le (by omega)
    rw [this] at h
    exact h I hl (Fr1_rf r I)
  | succ n ih =>
    intro k I l hk hl hm2 hc h
    have hco := ho.2.2.2.2.2
    have hcp := hr.2.2.2.2.2
    rw [H_Row_appendAllTight_2, mm_C, mm_I, if_pos ho.1, hm2.1, if_pos (nI_lt (by omega) (by omega)), if_pos ho.1, c_at ho hm2 hm (by omega), mm_C, if_pos hr.1, gt_lt (by omega)]
    have ht := Rl_6 hm2 (show k < m.length by omega)
    have hlen := tie_len l (m.getD k 0)
    refine c_tie hr hl (by omega) (by omega) ht _ (fun I' h1 h2 => ?_)
    rw [nI_1]
    refine ih (k + 1) I' _ (by omega) h1 (Rl_fr hr ho hne h2 hm2) (by omega) (fun I'' g1 g2 => ?_)
    refine h I'' ?_ (Fr1_tr h2 g2)
    rw [drop_cons (by omega)]
    exact g1
theorem c_tieAll {o co : Nat} (hr : Rw r cp) (ho : Rw o co) (hne : r ≠ o) {I : Nat → Nat → Int32} {l m : List Nat} (hl : Rl I r l) (hm2 : Rl I o m) (hm : m.length ≤ co) (hc : l.length + m.length ≤ cp) (Q : Mem → Prop) (h : ∀ I', Rl I' r (tieAll l m) → Fr1 r I I' → Q (mm L I' J)) : WV (d + 3) i_Row_appendAllTight [.ref r, .ref o] (mm L I J) Q := by
  rw [E_Row_appendAllTight]
  exact c_tieAll_loop hr ho hne hm (QV Q) m.length 0 I l (by omega) hl hm2 hc h
theorem Rl_0 {I : Nat → Nat → Int32} : Rl (up2 I r 1 0) r [] := ⟨by rw [up2_same]; rfl, fun k hk => absurd hk (Nat.not_lt_zero k), fun x hx => by cases hx⟩
theorem Fr1_0 {I : Nat → Nat → Int32} {v : Int32} : Fr1 r I (up2 I r 1 v) := fun a h1 _ => up2_ne _ _ _ h1
theorem c_becomeTight {o co : Nat} (hr : Rw r cp) (ho : Rw o co) (hne : r ≠ o) {I : Nat → Nat → Int32} {m : List Nat} (hm2 : Rl I o m) (hm : m.length ≤ co) (hc : m.length ≤ cp) (Q : Mem → Prop) (h : ∀ I', Rl I' r (tieAll [] m) → Fr1 r I I' → Q (mm L I' J)) : WV (d + 4) i_Row_becomeTight [.ref r, .ref o] (mm L I J) Q := by
  rw [E_Row_becomeTight, mm_C, if_pos hr.1, mm_sI, mm_C, if_pos hr.1]
  exact c_tieAll hr ho hne Rl_0 (Rl_fr hr ho hne Fr1_0 hm2) hm (by rw [List.length_nil]; omega) _ (fun I' h1 h2 => h I' h1 (Fr1_tr Fr1_0 h2))
theorem c_joined {o co o2 co2 : Nat} (hr : Rw r cp) (ho : Rw o co) (hne : r ≠ o) (ho2 : Rw o2 co2) (hne2 : r ≠ o2) {I : Nat → Nat → Int32} {m m2 : List Nat} (hm : Rl I o m) (hml : m.length ≤ co) (hm2 : Rl I o2 m2) (hml2 : m2.length ≤ co2) (hc : m.length + m2.length ≤ cp) (Q : Mem → Prop) (h : ∀ I', Rl I' r (tieAll (tieAll [] m) m2) → Fr1 r I I' → Q (mm L I' J)) : WV (d + 5) i_Row_becomeJoined [.ref r, .ref o, .ref o2] (mm L I J) Q := by
  rw [E_Row_becomeJoined, mm_C, if_pos hr.1]
  refine c_becomeTight hr ho hne hm hml (by omega) _ (fun I' h1 h2 => ?_)
  rw [mm_C, if_pos hr.1]
  have hlen := tieAll_len m []
  rw [List.length_nil] at hlen
  exact c_tieAll hr ho2 hne2 h1 (Rl_fr hr ho2 hne2 h2 hm2) hml2 (by omega) _ (fun I'' g1 g2 => h I'' g1 (Fr1_tr h2 g2))
theorem take_app {m : List Nat} {k : Nat} (h : k < m.length) : m.take k ++ [m.getD k 0] = m.take (k + 1) := by
  rw [List.getD_eq_getElem?_getD, List.getElem?_eq_getElem h]
  exact (List.take_succ_eq_append_getElem h).symm
theorem c_become_loop {o co : Nat} (hr : Rw r cp) (ho : Rw o co) (hne : r ≠ o) {m : List Nat} (hm : m.length ≤ co) (hcp2 : m.length ≤ cp) (Q : Option Value → Mem → Prop) : ∀ (n k : Nat) (I : Nat → Nat → Int32), k + n = m.length → Rl I r (m.take k) → Rl I o m → (∀ I', Rl I' r m → Fr1 r I I' → Q none (mm L I' J)) →
    Wn (d + 1) i_Row_become 7 [(0, .ref r), (1, .ref o), (2, .int (nI k))] [] (mm L I J) Q := by
  intro n
  have hco := ho.2.2.2.2.2
  have hcp := hr.2.2.2.2.2
  induction n with
  | zero =>
    intro k I hk hl hm2 h
    rw [H_Row_become_7, mm_C, mm_I, if_pos ho.1, hm2.1, if_neg (nI_nlt (by omega) (by omega))]
    have : m.take k = m := List.take_of_length_le (by omega)
    rw [this] at hl
    exact h I hl (Fr1_rf r I)
  | succ n ih =>
    intro k I hk hl hm2 h
    rw [H_Row_become_7, mm_C, mm_I, if_pos ho.1, hm2.1, if_pos (nI_lt (by omega) (by omega)), if_pos ho.1, c_at ho hm2 hm (by omega), mm_C, if_pos hr.1, gt_lt (by omega)]
    have ht := Rl_6 hm2 (show k < m.length by omega)
    have hlt : (m.take k).length = k := by rw [List.length_take]; omega
    refine c_append hr hl (by omega) ht _ (fun I' h1 h2 => ?_)
    rw [take_app (by omega)] at h1
    rw [nI_1]
    exact ih (k + 1) I' (by omega) h1 (Rl_fr hr ho hne h2 hm2) (fun I'' g1 g2 => h I'' g1 (Fr1_tr h2 g2))
theorem c_become {o co : Nat} (hr : Rw r cp) (ho : Rw o co) (hne : r ≠ o) {I : Nat → Nat → Int32} {m : List Nat} (hm2 : Rl I o m) (hm : m.length ≤ co) (hc : m.length ≤ cp) (Q : Mem → Prop) (h : ∀ I', Rl I' r m → Fr1 r I I' → Q (mm L I' J)) : WV (d + 1) i_Row_become [.ref r, .ref o] (mm L I J) Q := by
  rw [E_Row_become, mm_C, if_pos hr.1, mm_sI]
  exact c_become_loop hr ho hne hm hc (QV Q) m.length 0 _ (by omega) Rl_0 (Rl_fr hr ho hne Fr1_0 hm2) (fun I' h1 h2 => h I' h1 (Fr1_tr Fr1_0 h2))
end RowD
