/-! ===== tight rows ===== -/
def Tg (l : List Nat) : Prop := ∀ k, k + 1 < l.length → l.getD (k + 1) 0 ≠ l.getD k 0 ^^^ 1
theorem Tg_nil : Tg [] := fun k h => absurd h (Nat.not_lt_zero _)
theorem Tg_drop {l : List Nat} (h : Tg l) : Tg l.dropLast := by
  intro k hk
  rw [List.length_dropLast] at hk
  rw [getD_drop (by omega), getD_drop (by omega)]
  exact h k (by omega)
theorem x1_sw {a b : Nat} (h : a = b ^^^ 1) : b = a ^^^ 1 := by rw [h, x1_x1]
theorem Tg_tie {l : List Nat} (h : Tg l) (t : Nat) : Tg (tie l t) := by
  unfold tie
  split
  · exact Tg_drop h
  · rename_i hn
    intro k hk
    rw [List.length_append, List.length_singleton] at hk
    by_cases e : k + 1 < l.length
    · rw [getD_app e, getD_app (by omega)]
      exact h k e
    · have e1 : k + 1 = l.length := by omega
      rw [e1, getD_end, getD_app (by omega)]
      intro q
      apply hn
      rw [last_getD (by omega), show l.length - 1 = k by omega, x1_sw q]
theorem tie_tie {l : List Nat} (h : Tg l) (t : Nat) : tie (tie l t) (t ^^^ 1) = l := by
  by_cases c : l.getLast? = some (t ^^^ 1)
  · have e : tie l t = l.dropLast := by unfold tie; rw [if_pos c]
    rw [e]
    unfold tie
    have hl0 : 0 < l.length := by
      cases l with
      | nil => cases c
      | cons _ _ => exact Nat.succ_pos _
    rw [last_getD hl0] at c
    have c := Option.some.inj c
    rw [if_neg ?_]
    · have h1 : l.getLast (List.ne_nil_of_length_pos hl0) = t ^^^ 1 := by
        rw [← c, List.getLast_eq_getElem, List.getD_eq_getElem?_getD, List.getElem?_eq_getElem (by omega)]
        rfl
      rw [← h1]
      exact List.dropLast_concat_getLast _
    · intro q
      rw [x1_x1] at q
      by_cases h2 : 0 < l.dropLast.length
      · rw [last_getD h2, List.length_dropLast, getD_drop (by rw [List.length_dropLast] at h2; omega)] at q
        rw [List.length_dropLast] at h2
        have q := Option.some.inj q
        have := h (l.length - 1 - 1) (by omega)
        rw [show l.length - 1 - 1 + 1 = l.length - 1 by omega, q, c] at this
        exact this rfl
      · have h3 : l.dropLast = [] := List.eq_nil_of_length_eq_zero (by omega)
        rw [h3] at q
        cases q
  · have e : tie l t = l ++ [t] := by unfold tie; rw [if_neg c]
    rw [e]
    unfold tie
    rw [if_pos (by rw [x1_x1, List.getLast?_concat]), List.dropLast_concat]
theorem tieAll_app (l p s : List Nat) : tieAll l (p ++ s) = tieAll (tieAll l p) s := by unfold tieAll; rw [List.foldl_append]
theorem Tg_tieAll : ∀ (ts l : List Nat), Tg l → Tg (tieAll l ts) := by
  intro ts
  induction ts with
  | nil => intro l h; exact h
  | cons t r ih => intro l h; exact ih _ (Tg_tie h t)
theorem tieAll_take {l m : List Nat} {j : Nat} (h : j < m.length) : tieAll l (m.take (j + 1)) = tie (tieAll l (m.take j)) (m.getD j 0) := by
  rw [← take_app h, tieAll_app]
  rfl
theorem tie_ap {l : List Nat} {t : Nat} (h : l.getLast? ≠ some (t ^^^ 1)) : tie l t = l ++ [t] := by unfold tie; rw [if_neg h]
theorem tieAll_take_self {m : List Nat} (h : Tg m) : ∀ j, j ≤ m.length → tieAll [] (m.take j) = m.take j := by
  intro j
  induction j with
  | zero => intro _; rfl
  | succ j ih =>
    intro hj
    rw [tieAll_take (by omega), ih (by omega), tie_ap ?_, take_app (by omega)]
    intro q
    by_cases h0 : 0 < j
    · have hl : (m.take j).length = j := by rw [List.length_take]; omega
      rw [last_getD (by omega), hl] at q
      have q := Option.some.inj q
      have e : (m.take j).getD (j - 1) 0 = m.getD (j - 1) 0 := by
        rw [List.getD_eq_getElem?_getD, List.getD_eq_getElem?_getD, List.getElem?_take, if_pos (by omega)]
      rw [e] at q
      have := h (j - 1) (by omega)
      rw [show j - 1 + 1 = j by omega] at this
      exact this (x1_sw q)
    · have : j = 0 := by omega
      subst this
      cases q
theorem tieAll_self {m : List Nat} (h : Tg m) : tieAll [] m = m := by
  have := tieAll_take_self h m.length (Nat.le_refl _)
  rw [List.take_length] at this
  exact this
theorem tieAll_lt_len (l m : List Nat) (j : Nat) : (tieAll l (m.take j)).length ≤ l.length + m.length := by
  have h1 := tieAll_len (m.take j) l
  rw [List.length_take] at h1
  omega
theorem nI_dec (k : Nat) : nI (k + 1) + (-1) = nI k := by
  have := nI_pred k
  rw [← this]
  exact (Int32.sub_eq_add_neg _ _).symm
theorem nI_nn {k : Nat} (h : k < 2 ^ 31) : ¬ nI k < 0 := nI_pos h
section RowG
variable {d r cp o co L : Nat} {J : Nat → Nat → Int64}
theorem c_undoAll_loop (hr : Rw r cp) (ho : Rw o co) (hne : r ≠ o) {l m : List Nat} (ht : Tg l) (hm : m.length ≤ co) (hc : l.length + m.length ≤ cp) (Q : Option Value → Mem → Prop) : ∀ (k : Nat) (I : Nat → Nat → Int32), k ≤ m.length → Rl I r (tieAll l (m.take k)) → Rl I o m → (∀ I', Rl I' r l → Fr1 r I I' → Q none (mm L I' J)) →
    Wn (d + 3) i_Row_appendAllUndoing 7 [(0, .ref r), (1, .ref o), (2, .int (nI k + (-1)))] [] (mm L I J) Q := by
  have hco := ho.2.2.2.2.2
  have hcp := hr.2.2.2.2.2
  intro k
  induction k with
  | zero =>
    intro I hk hl hm2 h
    rw [H_Row_appendAllUndoing_7, if_pos (by decide)]
    exact h I hl (Fr1_rf r I)
  | succ k ih =>
    intro I hk hl hm2 h
    have h6 := Rl_6 hm2 (show k < m.length by omega)
    have hb := tie_tie (Tg_tieAll (m.take k) l ht) (m.getD k 0)
    rw [← tieAll_take (by omega)] at hb
    have hn1 := tieAll_lt_len l m (k + 1)
    have hn2 := tieAll_lt_len l m k
    rw [nI_dec, H_Row_appendAllUndoing_7, if_neg (nI_nn (by omega)), mm_C, if_pos ho.1, c_at ho hm2 hm (by omega), gt_lt (by omega), c_undoing h6, mm_C, if_pos hr.1]
    refine c_tie hr hl (by omega) (by rw [hb]; omega) (x1_lt h6) _ (fun I' h1 h2 => ?_)
    rw [hb] at h1
    exact ih I' (by omega) h1 (Rl_fr hr ho hne h2 hm2) (fun I'' g1 g2 => h I'' g1 (Fr1_tr h2 g2))
theorem c_undoAll (hr : Rw r cp) (ho : Rw o co) (hne : r ≠ o) {l m : List Nat} (ht : Tg l) (hm : m.length ≤ co) (hc : l.length + m.length ≤ cp) {I : Nat → Nat → Int32} (hl : Rl I r (tieAll l m)) (hm2 : Rl I o m) (Q : Mem → Prop) (h : ∀ I', Rl I' r l → Fr1 r I I' → Q (mm L I' J)) : WV (d + 3) i_Row_appendAllUndoing [.ref r, .ref o] (mm L I J) Q := by
  rw [E_Row_appendAllUndoing, mm_C, if_pos ho.1, mm_I, hm2.1]
  have e : nI m.length - 1 = nI m.length + (-1) := by rw [Int32.sub_eq_add_neg]
  rw [e]
  refine c_undoAll_loop hr ho hne ht hm hc (QV Q) m.length I (Nat.le_refl _) ?_ hm2 h
  rw [List.take_length]
  exact hl
end RowG
/-! ===== camps ===== -/
def FrR (lo hi : Nat) (I I' : Nat → Nat → Int32) : Prop := ∀ a, (a < lo ∨ hi ≤ a) → I' a = I a
theorem FrR_rf (lo hi : Nat) (I : Nat → Nat → Int32) : FrR lo hi I I := fun _ _ => rfl
theorem FrR_tr {lo hi : Nat} {I I' I'' : Nat → Nat → Int32} (h : FrR lo hi I I') (h2 : FrR lo hi I' I'') : FrR lo hi I I'' := fun a h1 => (h2 a h1).trans (h a h1)
theorem FrR_1 {lo hi r : Nat} {I I' : Nat → Nat → Int32} (h : Fr1 r I I') (h1 : lo ≤ r) (h2 : r + 1 < hi) : FrR lo hi I I' := fun a q => h a (by omega) (by omega)
theorem FrR_w {lo hi lo2 hi2 : Nat} {I I' : Nat → Nat → Int32} (h : FrR lo hi I I') (h1 : lo2 ≤ lo) (h2 : hi ≤ hi2) : FrR lo2 hi2 I I' := fun a q => h a (by omega)
theorem FrR_u {lo hi a k : Nat} {v : Int32} {I : Nat → Nat → Int32} (h1 : lo ≤ a) (h2 : a < hi) : FrR lo hi I (up2 I a k v) := fun b q => up2_ne _ _ _ (by omega)
/-- c is a camp -/
def Cw (c : Nat) : Prop := c < 240 ∧ CL c = 0 ∧ RR c 0 = c + 1 ∧ CL (c + 1) = 14 ∧ lnL.getD (c + 1) 0 = 6 ∧ RR c 1 = c + 2 ∧ Rw (c + 2) 12 ∧ ∀ h, h < 6 → RR (c + 1) h = c + 4 + 2 * h ∧ Rw (c + 4 + 2 * h) 12
theorem Cw_3 : Cw 3 := by unfold Cw Rw; decide
theorem Cw_216 : Cw 216 := by unfold Cw Rw; decide
theorem Cw_232 : Cw 232 := by unfold Cw Rw; decide
theorem Cw_p : ∀ i, i < 10 → Cw (21 + 16 * i) := by unfold Cw Rw; decide
def nmO (ns : List (List Nat)) (h : Nat) : List Nat := ns.getD h []
/-- the camp c holds the names ns and the contract ct -/
def Cl (I : Nat → Nat → Int32) (c : Nat) (ns : List (List Nat)) (ct : List Nat) : Prop := I c 2 = nI ns.length ∧ ns.length ≤ 6 ∧ (∀ h, h < ns.length → Rl I (c + 4 + 2 * h) (nmO ns h) ∧ (nmO ns h).length ≤ 12) ∧ Rl I (c + 2) ct ∧ ct.length ≤ 12
theorem Cl_fr {I I' : Nat → Nat → Int32} {c lo hi : Nat} {ns : List (List Nat)} {ct : List Nat} (hF : FrR lo hi I I') (hc : c + 16 ≤ lo ∨ hi ≤ c) (h : Cl I c ns ct) : Cl I' c ns ct := by
  obtain ⟨h1, h2, h3, h4, h5⟩ := h
  have k1 : ∀ a, c ≤ a → a < c + 16 → I' a = I a := fun a q1 q2 => hF a (by omega)
  refine ⟨by rw [k1 c (by omega) (by omega)]; exact h1, h2, fun h hh => ⟨Rl_keep (h3 h hh).1 (k1 _ (by omega) (by omega)) (k1 _ (by omega) (by omega)), (h3 h hh).2⟩, Rl_keep h4 (k1 _ (by omega) (by omega)) (k1 _ (by omega) (by omega)), h5⟩
theorem Cw_LN {c : Nat} (h : Cw c) (L : Nat) : LN L (c + 1) = 6 := by
  unfold LN
  rw [if_neg (by have := h.1; omega), if_neg (by have := h.1; omega)]
  exact h.2.2.2.2.1
section CampC
variable {d c L : Nat} {I : Nat → Nat → Int32} {J : Nat → Nat → Int64} {ns : List (List Nat)} {ct : List Nat}
theorem c_within (M : Mem) (Q : Int32 → Mem → Prop) (x a b : Int32) : WI d i_KN_isWithin [.int x, .int a, .int b] M Q ↔ Q (bI (decide (a ≤ x ∧ x ≤ b))) M := by
  rw [E_KN_isWithin]
  by_cases h1 : x < a
  · rw [if_pos h1, decide_eq_false (fun q => by have := q.1; exact absurd h1 (Int32.not_lt.mpr this))]
    rfl
  · rw [if_neg h1]
    by_cases h2 : b < x
    · rw [if_pos h2, decide_eq_false (fun q => by have := q.2; exact absurd h2 (Int32.not_lt.mpr this))]
      rfl
    · rw [if_neg h2, decide_eq_true ⟨Int32.not_lt.mp h1, Int32.not_lt.mp h2⟩]
      rfl
end CampC
