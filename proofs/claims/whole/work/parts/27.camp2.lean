section CampD
variable {d c L : Nat} {I : Nat → Nat → Int32} {J : Nat → Nat → Int64} {ns : List (List Nat)} {ct : List Nat}
theorem c_hasY (hC : Cw c) (hl : Cl I c ns ct) {h : Nat} (hh : h < ns.length) (Q : Int32 → Mem → Prop) : WI (d + 1) i_Camp_has [.ref c, .int (nI h)] (mm L I J) Q ↔ Q 1 (mm L I J) := by
  have h6 := hl.2.1
  rw [E_Camp_has, mm_C, if_pos hC.2.1, c_within, mm_I, hl.1, nI_m1 (by omega), decide_eq_true ⟨nI_pos' (by omega), nI_le (by omega) (by omega)⟩]
  rfl
theorem c_hasN (hC : Cw c) (hl : Cl I c ns ct) {x : Int32} (hx : x < 0 ∨ nI ns.length ≤ x) (Q : Int32 → Mem → Prop) : WI (d + 1) i_Camp_has [.ref c, .int x] (mm L I J) Q ↔ Q 0 (mm L I J) := by
  have h6 := hl.2.1
  have hn : ¬ (0 ≤ x ∧ x ≤ nI ns.length - 1) := by
    intro q
    rcases hx with h | h
    · exact absurd h (Int32.not_lt.mpr q.1)
    · by_cases h0 : ns.length = 0
      · rw [h0] at q
        have q2 : x ≤ -1 := q.2
        exact absurd (Int32.le_trans q.1 q2) (by decide)
      · rw [nI_m1 (by omega)] at q
        exact absurd (Int32.le_trans h q.2) (nI_ge (by omega) (by omega))
  rw [E_Camp_has, mm_C, if_pos hC.2.1, c_within, mm_I, hl.1, decide_eq_false hn]
  rfl
theorem cw_rr (hC : Cw c) {h : Nat} (hh : h < 6) : RR (c + 1) (nI h).toNatClampNeg = c + 4 + 2 * h := by rw [ix_nI (by omega)]; exact (hC.2.2.2.2.2.2.2 h hh).1
theorem cw_ok (hC : Cw c) {h : Nat} (hh : h < 6) : (rdA 14 ∧ inb (nI h) 6) ∧ RR (c + 1) (nI h).toNatClampNeg ≠ 999999 := by
  have h2 := hC.1
  refine ⟨⟨by decide, inb_nI hh (by omega)⟩, ?_⟩
  rw [cw_rr hC hh]
  omega
theorem c_nameOf (hC : Cw c) {h : Nat} (hh : h < 6) (Q : Nat → Mem → Prop) : WA d i_Camp_nameOf [.ref c, .int (nI h)] (mm L I J) Q ↔ Q (c + 4 + 2 * h) (mm L I J) := by
  have h1 := (hC.2.2.2.2.2.2.2 h hh).1
  have h2 := hC.1
  rw [E_Camp_nameOf, mm_C, mm_R, mm_L, if_pos hC.2.1, hC.2.2.1, if_neg (by omega), Cw_LN hC, hC.2.2.2.1, if_pos (cw_ok hC hh), cw_rr hC hh]
def sumL : List (List Nat) → Nat → Nat → Nat
  | _, 0, _ => 0
  | ns, n + 1, k => (nmO ns k).length + sumL ns n (k + 1)
theorem sumL_le (hn : ∀ h, h < ns.length → (nmO ns h).length ≤ 12) : ∀ n k, k + n ≤ ns.length → sumL ns n k ≤ 12 * n := by
  intro n
  induction n with
  | zero => intro k _; exact Nat.le_refl _
  | succ n ih =>
    intro k hk
    have h1 := hn k (by omega)
    have h2 := ih (k + 1) (by omega)
    unfold sumL
    omega
theorem c_turns_loop (hC : Cw c) (hl : Cl I c ns ct) (Q : Option Value → Mem → Prop) : ∀ n k s, k + n = ns.length →
    (Wn d i_Camp_turns 4 [(0, .ref c), (1, .int (nI s)), (2, .int (nI k))] [] (mm L I J) Q ↔ Q (some (.int (nI (s + sumL ns n k)))) (mm L I J)) := by
  have h6 := hl.2.1
  intro n
  induction n with
  | zero =>
    intro k s hk
    rw [H_Camp_turns_4, mm_C, mm_I, if_pos hC.2.1, hl.1, if_neg (nI_nlt (by omega) (by omega))]
    rfl
  | succ n ih =>
    intro k s hk
    have h1 := (hC.2.2.2.2.2.2.2 k (by omega))
    have h2 := hC.1
    rw [H_Camp_turns_4, mm_C, mm_R, mm_L, mm_I, if_pos hC.2.1, hl.1, if_pos (nI_lt (by omega) (by omega)), if_pos hC.2.1, hC.2.2.1, if_neg (by omega), Cw_LN hC, hC.2.2.2.1, if_pos (cw_ok hC (show k < 6 by omega)), cw_rr hC (show k < 6 by omega), if_pos h1.2.1, (hl.2.2.1 k (by omega)).1.1, nI_add, nI_1, ih (k + 1) _ (by omega), Nat.add_assoc]
    rfl
theorem c_turns (hC : Cw c) (hl : Cl I c ns ct) (Q : Int32 → Mem → Prop) : WI d i_Camp_turns [.ref c] (mm L I J) Q ↔ Q (nI (sumL ns ns.length 0)) (mm L I J) := by
  rw [E_Camp_turns]
  have := c_turns_loop (d := d) (L := L) (J := J) hC hl (QI Q) ns.length 0 0 (by omega)
  rw [Nat.zero_add] at this
  exact this
/-- the set of the places where P is -/
def bts (P : Nat → Bool) : Nat → Nat → Int32 → Int32
  | 0, _, s => s
  | n + 1, k, s => bts P n (k + 1) (if P k = true then s ||| ((1 : Int32) <<< (nI k &&& 31)) else s)
theorem bts_t {P : Nat → Bool} {n k : Nat} {s : Int32} (h : P k = true) : bts P (n + 1) k s = bts P n (k + 1) (s ||| ((1 : Int32) <<< (nI k &&& 31))) := by show bts P n (k + 1) (if P k = true then _ else s) = _; rw [if_pos h]
theorem bts_f {P : Nat → Bool} {n k : Nat} {s : Int32} (h : P k = false) : bts P (n + 1) k s = bts P n (k + 1) s := by show bts P n (k + 1) (if P k = true then _ else s) = _; rw [if_neg (by rw [h]; decide)]
theorem bts_cg {P P' : Nat → Bool} : ∀ n k s, (∀ j, k ≤ j → j < k + n → P j = P' j) → bts P n k s = bts P' n k s := by
  intro n
  induction n with
  | zero => intro k s _; rfl
  | succ n ih =>
    intro k s h
    unfold bts
    rw [h k (Nat.le_refl _) (by omega)]
    exact ih _ _ (fun j h1 h2 => h j (by omega) (by omega))
def namP (ns : List (List Nat)) : Nat → Bool := fun k => decide (0 < (nmO ns k).length)
theorem c_named_loop (hC : Cw c) (hl : Cl I c ns ct) (Q : Option Value → Mem → Prop) : ∀ n k s, k + n = ns.length →
    (Wn d i_Camp_named 4 [(0, .ref c), (1, .int s), (2, .int (nI k))] [] (mm L I J) Q ↔ Q (some (.int (bts (namP ns) n k s))) (mm L I J)) := by
  have h6 := hl.2.1
  intro n
  induction n with
  | zero =>
    intro k s hk
    rw [H_Camp_named_4, mm_C, mm_I, if_pos hC.2.1, hl.1, if_neg (nI_nlt (by omega) (by omega))]
    rfl
  | succ n ih =>
    intro k s hk
    have h1 := (hC.2.2.2.2.2.2.2 k (by omega))
    have h2 := hC.1
    have h3 := (hl.2.2.1 k (by omega))
    rw [H_Camp_named_4, mm_C, mm_R, mm_L, mm_I, if_pos hC.2.1, hl.1, if_pos (nI_lt (by omega) (by omega)), if_pos hC.2.1, hC.2.2.1, if_neg (by omega), Cw_LN hC, hC.2.2.2.1, if_pos (cw_ok hC (show k < 6 by omega)), cw_rr hC (show k < 6 by omega), if_pos h1.2.1, h3.1.1, nI_1, ih (k + 1) _ (by omega), ih (k + 1) _ (by omega)]
    by_cases e : 0 < (nmO ns k).length
    · have e1 : (0 : Int32) < nI (nmO ns k).length := nI_lt e (by omega)
      rw [if_pos e1, bts_t (P := namP ns) (decide_eq_true e)]
    · have e0 : (nmO ns k).length = 0 := by omega
      rw [if_neg (by rw [e0]; decide), bts_f (P := namP ns) (decide_eq_false e)]
theorem c_named (hC : Cw c) (hl : Cl I c ns ct) (Q : Int32 → Mem → Prop) : WI d i_Camp_named [.ref c] (mm L I J) Q ↔ Q (bts (namP ns) ns.length 0 0) (mm L I J) := by
  rw [E_Camp_named]
  exact c_named_loop hC hl (QI Q) ns.length 0 0 (by omega)
def likP (ns : List (List Nat)) (h : Nat) : Nat → Bool := fun k => decide (nmO ns k = nmO ns h)
def likS (ns : List (List Nat)) (h : Nat) : Int32 := bts (likP ns h) ns.length 0 0
theorem c_like_loop (hC : Cw c) (hl : Cl I c ns ct) {h : Nat} (hh : h < ns.length) (Q : Option Value → Mem → Prop) : ∀ n k s, k + n = ns.length →
    (Wn (d + 3) i_Camp_calledLike 4 [(0, .ref c), (1, .int (nI h)), (2, .int s), (3, .int (nI k))] [] (mm L I J) Q ↔ Q (some (.int (bts (likP ns h) n k s))) (mm L I J)) := by
  have h6 := hl.2.1
  intro n
  induction n with
  | zero =>
    intro k s hk
    rw [H_Camp_calledLike_4, mm_C, mm_I, if_pos hC.2.1, hl.1, if_neg (nI_nlt (by omega) (by omega))]
    rfl
  | succ n ih =>
    intro k s hk
    have h1 := (hC.2.2.2.2.2.2.2 k (by omega))
    have g1 := (hC.2.2.2.2.2.2.2 h (by omega))
    have h2 := hC.1
    have h3 := (hl.2.2.1 k (by omega))
    have g3 := (hl.2.2.1 h (by omega))
    rw [H_Camp_calledLike_4, mm_C, mm_R, mm_L, mm_I, if_pos hC.2.1, hl.1, if_pos (nI_lt (by omega) (by omega)), if_pos hC.2.1, hC.2.2.1, if_neg (by omega), Cw_LN hC, hC.2.2.2.1, if_pos (cw_ok hC (show k < 6 by omega)), cw_rr hC (show k < 6 by omega), if_pos hC.2.1, if_neg (by omega), if_pos (cw_ok hC (show h < 6 by omega)), cw_rr hC (show h < 6 by omega), if_pos h1.2.1, c_isLike h1.2 g1.2 h3.1 g3.1 h3.2 g3.2, nI_1, ih (k + 1) _ (by omega), ih (k + 1) _ (by omega)]
    by_cases e : nmO ns k = nmO ns h
    · rw [if_neg (by rw [decide_eq_true e]; decide), bts_t (P := likP ns h) (decide_eq_true e)]
    · rw [if_pos (by rw [decide_eq_false e]; rfl), bts_f (P := likP ns h) (decide_eq_false e)]
theorem c_like (hC : Cw c) (hl : Cl I c ns ct) {h : Nat} (hh : h < ns.length) (Q : Int32 → Mem → Prop) : WI (d + 3) i_Camp_calledLike [.ref c, .int (nI h)] (mm L I J) Q ↔ Q (likS ns h) (mm L I J) := by
  rw [E_Camp_calledLike]
  exact c_like_loop hC hl hh (QI Q) ns.length 0 0 (by omega)
def unlP (ns : List (List Nat)) : Nat → Bool := fun k => likS ns k &&& (((1 : Int32) <<< (nI k &&& 31)) - 1) == 0
theorem c_unl_loop (hC : Cw c) (hl : Cl I c ns ct) (Q : Option Value → Mem → Prop) : ∀ n k s, k + n = ns.length →
    (Wn (d + 4) i_Camp_unlikeNames 4 [(0, .ref c), (1, .int (nI s)), (2, .int (nI k))] [] (mm L I J) Q ↔ Q (some (.int (nI (s + cnt (unlP ns) n k)))) (mm L I J)) := by
  have h6 := hl.2.1
  intro n
  induction n with
  | zero =>
    intro k s hk
    rw [H_Camp_unlikeNames_4, mm_C, mm_I, if_pos hC.2.1, hl.1, if_neg (nI_nlt (by omega) (by omega))]
    rfl
  | succ n ih =>
    intro k s hk
    rw [H_Camp_unlikeNames_4, mm_C, mm_I, if_pos hC.2.1, hl.1, if_pos (nI_lt (by omega) (by omega)), if_pos hC.2.1, c_like hC hl (by omega), nI_1, nI_1, ih (k + 1) _ (by omega), ih (k + 1) _ (by omega)]
    by_cases e : likS ns k &&& (((1 : Int32) <<< (nI k &&& 31)) - 1) = 0
    · rw [if_pos e, cnt_t (P := unlP ns) (by unfold unlP; rw [e]; rfl), Nat.add_assoc]
    · rw [if_neg e, cnt_f (P := unlP ns) (by unfold unlP; exact beq_false_of_ne e)]
theorem c_unl (hC : Cw c) (hl : Cl I c ns ct) (Q : Int32 → Mem → Prop) : WI (d + 4) i_Camp_unlikeNames [.ref c] (mm L I J) Q ↔ Q (nI (cnt (unlP ns) ns.length 0)) (mm L I J) := by
  rw [E_Camp_unlikeNames]
  have := c_unl_loop (d := d) (L := L) (J := J) hC hl (QI Q) ns.length 0 0 (by omega)
  rw [Nat.zero_add] at this
  exact this
end CampD
