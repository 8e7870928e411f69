/-! ===== new names ===== -/
theorem RR191_0 : RR 191 0 = 192 := by decide
theorem RR191_1 : RR 191 1 = 194 := by decide
theorem RR0_6 : RR 0 6 = 191 := by decide
theorem n191 : ¬ (191 : Nat) = 999999 := by decide
theorem n192 : ¬ (192 : Nat) = 999999 := by decide
theorem n194 : ¬ (194 : Nat) = 999999 := by decide
theorem w192 : Rw 192 4 := by unfold Rw; decide
theorem w194 : Rw 194 4 := by unfold Rw; decide
theorem CL192 : CL 192 = 4 := by decide
theorem CL194 : CL 194 = 4 := by decide
/-- a number's row, the first turn highest -/
def spl (q : Nat) : Nat → List Nat
  | 0 => []
  | n + 1 => (q / 6 ^ n % 6) :: spl q n
theorem spl_len (q : Nat) : ∀ n, (spl q n).length = n := by
  intro n
  induction n with
  | zero => rfl
  | succ n ih => show (spl q n).length + 1 = _; rw [ih]
theorem mx1b {c : Nat} (h : 0 < c) (hc : c < 2 ^ 31) : (if (1 : Int32) < nI c then nI c else 1) = nI c := by
  by_cases e : 1 < c
  · have e1 : nI 1 < nI c := nI_lt e hc
    have e1 : (1 : Int32) < nI c := e1
    rw [if_pos e1]
  · have : c = 1 := by omega
    rw [this]
    decide
section NewN
variable {d L : Nat} {J : Nat → Nat → Int64} {ns : List (List Nat)} {ct : List Nat}
theorem c_spl_loop (q n : Nat) (hq : q < 2 ^ 31) (Q : Option Value → Mem → Prop) : ∀ (k : Nat) (I : Nat → Nat → Int32) (acc : List Nat), acc.length + k ≤ 4 → Rl I 194 acc → (∀ I', Rl I' 194 (acc ++ spl q k) → Fr1 194 I I' → Q none (mm L I' J)) →
    Wn (d + 1) i_NewN_spell 12 [(0, .ref 191), (1, .int (nI q)), (2, .int (nI n)), (3, .int (nI k + (-1)))] [] (mm L I J) Q := by
  intro k
  induction k with
  | zero =>
    intro I acc hk hl h
    rw [H_NewN_spell_12, if_pos (by decide)]
    refine h I ?_ (Fr1_rf _ _)
    show Rl I 194 (acc ++ [])
    rw [List.append_nil]
    exact hl
  | succ k ih =>
    intro I acc hk hl h
    have e6 : (6 : Int32) = nI 6 := by decide
    have p1 : 0 < 6 ^ k := Nat.pow_pos (by omega)
    have p2 : 6 ^ k ≤ 6 ^ 4 := Nat.pow_le_pow_right (by omega) (by omega)
    have p3 : q / 6 ^ k ≤ q := Nat.div_le_self _ _
    have p4 := Nat.mod_lt (q / 6 ^ k) (show 0 < 6 by omega)
    rw [nI_dec, H_NewN_spell_12, if_neg (nI_nn (by omega)), e6, c_pow (by omega) (by omega), mm_C, if_pos CL191, mm_R, RR191_1, if_neg n194, lN_i, mx1b p1 (by omega), if_neg (nI_ne0 p1 (by omega)), if_pos CL194, pk_div hq p1 (by omega), pk_rem (by omega) (by omega) (by omega)]
    refine c_append w194 hl (by omega) p4 _ (fun I' g1 g2 => ?_)
    refine ih I' _ (by rw [List.length_append, List.length_singleton]; omega) g1 (fun I'' f1 f2 => h I'' ?_ (Fr1_tr g2 f2))
    rw [List.append_assoc] at f1
    exact f1
theorem c_spl {I : Nat → Nat → Int32} {q n : Nat} (hq : q < 2 ^ 31) (hn : n ≤ 4) (Q : Mem → Prop) (h : ∀ I', Rl I' 194 (spl q n) → Fr1 194 I I' → Q (mm L I' J)) : WV (d + 1) i_NewN_spell [.ref 191, .int (nI q), .int (nI n)] (mm L I J) Q := by
  rw [E_NewN_spell, mm_C, if_pos CL191, mm_R, RR191_1, if_neg n194, if_pos CL194]
  refine c_emptyA w194 _ (fun I' g1 g2 => ?_)
  have e : nI n - 1 = nI n + (-1) := by rw [Int32.sub_eq_add_neg]
  rw [e]
  refine c_spl_loop q n hq (QV Q) n I' [] (by rw [List.length_nil]; omega) g1 (fun I'' f1 f2 => h I'' f1 (Fr1_tr g2 f2))
def farP (ns : List (List Nat)) (t : List Nat) (D : Nat) : Nat → Bool := fun h => decide (¬ ((nmO ns h).length = t.length ∧ difs (nmO ns h) t < D))
theorem c_far_loop {I : Nat → Nat → Int32} (hl : Cl I 3 ns ct) {t : List Nat} (ht : Rl I 194 t) (h4 : t.length ≤ 4) {D : Nat} (hD : D ≤ 4) (Q : Option Value → Mem → Prop) : ∀ n k, k + n = ns.length →
    (Wn (d + 2) i_NewN_isFar 2 [(0, .ref 191), (1, .ref 3), (2, .int (nI D)), (3, .int (nI k))] [] (mm L I J) Q ↔ Q (some (.int (bI (alB (farP ns t D) n k)))) (mm L I J)) := by
  have h6 := hl.2.1
  intro n
  induction n with
  | zero =>
    intro k hk
    rw [H_NewN_isFar_2, mm_C, if_pos CL3, mm_I, hl.1, if_neg (nI_nlt (by omega) (by omega))]
    rfl
  | succ n ih =>
    intro k hk
    have w := w3 (show k < 6 by omega)
    have r := r3 hl (show k < ns.length by omega)
    have l12 := l3 hl (show k < ns.length by omega)
    have dl := difs_le (nmO ns k) t
    rw [H_NewN_isFar_2, mm_C, if_pos CL3, mm_I, hl.1, if_pos (nI_lt (by omega) (by omega)), if_pos CL3, c_name3 (by omega), mm_C, if_pos w.1, if_pos CL191, mm_R, RR191_1, if_neg n194, if_pos CL194, mm_I, r.1, ht.1, if_pos CL191, if_neg n194, if_pos w.1, nI_1, ih (k + 1) (by omega)]
    by_cases e : (nmO ns k).length = t.length
    · rw [if_pos (by rw [e]), c_diff w w194 r ht l12 h4 e, ih (k + 1) (by omega)]
      by_cases e2 : difs (nmO ns k) t < D
      · rw [if_pos (nI_lt e2 (by omega)), alB_f (P := farP ns t D) (decide_eq_false (fun q => q ⟨e, e2⟩))]
        rfl
      · rw [if_neg (nI_nlt (by omega) (by omega)), alB_t (P := farP ns t D) (decide_eq_true (fun q => e2 q.2))]
    · rw [if_neg (fun q => e ((nI_eq (by omega) (by omega)).mp q)), alB_t (P := farP ns t D) (decide_eq_true (fun q => e q.1))]
theorem c_far {I : Nat → Nat → Int32} (hl : Cl I 3 ns ct) {t : List Nat} (ht : Rl I 194 t) (h4 : t.length ≤ 4) {D : Nat} (hD : D ≤ 4) (Q : Int32 → Mem → Prop) : WI (d + 2) i_NewN_isFar [.ref 191, .ref 3, .int (nI D)] (mm L I J) Q ↔ Q (bI (alB (farP ns t D) ns.length 0)) (mm L I J) := by
  rw [E_NewN_isFar]
  have := c_far_loop (d := d) (L := L) (J := J) hl ht h4 hD (QI Q) ns.length 0 (by omega)
  rw [nI_0] at this
  exact this
def newP (ns : List (List Nat)) (n D : Nat) : Nat → Bool := fun q => tghB (spl q n) && alB (farP ns (spl q n) D) ns.length 0
theorem c_find_loop {n D R : Nat} (hn : n ≤ 4) (hD : D ≤ 4) (hR : R ≤ 1296) (Q : Option Value → Mem → Prop) : ∀ (m k c : Nat) (I : Nat → Nat → Int32), k + m = R → c ≤ k → Cl I 3 ns ct → I 191 2 = nI c → (∀ I', I' 191 2 = nI (c + cnt (newP ns n D) m k) → (0 < c → ∀ t, Rl I 192 t → Rl I' 192 t) → (c = 0 → 0 < cnt (newP ns n D) m k → Rl I' 192 (spl (fs (newP ns n D) m k) n)) → FrR 191 196 I I' → Q none (mm L I' J)) →
    Wn (d + 3) i_NewN_find 17 [(0, .ref 191), (1, .ref 3), (2, .int (nI n)), (3, .int (nI D)), (4, .int (nI R)), (5, .int (nI k))] [] (mm L I J) Q := by
  intro m
  induction m with
  | zero =>
    intro k c I hk hc hl hh h
    rw [H_NewN_find_17, if_neg (nI_nlt (by omega) (by omega))]
    exact h I hh (fun _ t q => q) (fun _ q => absurd q (Nat.lt_irrefl _)) (FrR_rf _ _ _)
  | succ m ih =>
    intro k c I hk hc hl hh h
    have sl := spl_len k n
    rw [H_NewN_find_17, if_pos (nI_lt (by omega) (by omega)), mm_C, if_pos CL191]
    refine c_spl (by omega) hn _ (fun I1 g1 g2 => ?_)
    have F1 : FrR 191 196 I I1 := FrR_1 g2 (by omega) (by omega)
    have l1 := Cl_fr F1 (by omega) hl
    have c1 : I1 191 2 = nI c := by rw [g2 191 (by omega) (by omega)]; exact hh
    have k192 : ∀ t, Rl I 192 t → Rl I1 192 t := fun t q => Rl_fr w194 w192 (by omega) g2 q
    have next : newP ns n D k = false → Wn (d + 3) i_NewN_find 17 [(0, .ref 191), (1, .ref 3), (2, .int (nI n)), (3, .int (nI D)), (4, .int (nI R)), (5, .int (nI k + 1))] [] (mm L I1 J) Q := fun e => by
      rw [nI_1]
      refine ih (k + 1) c I1 (by omega) (by omega) l1 c1 (fun I' u1 u2 u3 u4 => ?_)
      refine h I' (by rw [cnt_f e]; exact u1) (fun q t r => u2 q t (k192 t r)) (fun q r => ?_) (FrR_tr F1 u4)
      rw [cnt_f e] at r
      rw [fs_f e]
      exact u3 q r
    rw [mm_C, if_pos CL191, mm_R, RR191_1, if_neg n194, if_pos CL194, c_isTight w194 g1 (by omega)]
    by_cases e1 : tghB (spl k n) = true
    · rw [if_neg (fun q => by rw [bI_0.mp q] at e1; cases e1), mm_C, if_pos CL191, c_far l1 g1 (by omega) hD]
      by_cases e2 : alB (farP ns (spl k n) D) ns.length 0 = true
      · have e : newP ns n D k = true := by unfold newP; rw [e1, e2]; rfl
        rw [if_neg (fun q => by rw [bI_0.mp q] at e2; cases e2), mm_C, if_pos CL191, mm_I, c1]
        have fin : ∀ I2, FrR 191 196 I I2 → Cl I2 3 ns ct → I2 191 2 = nI c → (0 < c → ∀ t, Rl I 192 t → Rl I2 192 t) → (c = 0 → Rl I2 192 (spl k n)) → Wn (d + 3) i_NewN_find 17 [(0, .ref 191), (1, .ref 3), (2, .int (nI n)), (3, .int (nI D)), (4, .int (nI R)), (5, .int (nI k + 1))] [] (mm L (up2 I2 191 2 (nI (c + 1))) J) Q := fun I2 f1 f2 f3 f4 f5 => by
          have F3 : FrR 191 192 I2 (up2 I2 191 2 (nI (c + 1))) := FrR_u (by omega) (by omega)
          have kk : ∀ t, Rl I2 192 t → Rl (up2 I2 191 2 (nI (c + 1))) 192 t := fun t q => Rl_keep q (F3 192 (by omega)) (F3 193 (by omega))
          rw [nI_1]
          refine ih (k + 1) (c + 1) _ (by omega) (by omega) (Cl_fr F3 (by omega) f2) (up2_same _ _ _ _) (fun I' u1 u2 u3 u4 => ?_)
          refine h I' (by rw [cnt_t e, ← Nat.add_assoc]; exact u1) (fun q t r => u2 (by omega) t (kk t (f4 q t r))) (fun q r => ?_) (FrR_tr f1 (FrR_tr (FrR_w F3 (by omega) (by omega)) u4))
          rw [fs_t e]
          exact u2 (by omega) _ (kk _ (f5 q))
        by_cases c0 : c = 0
        · rw [if_pos (by rw [c0]; rfl), if_pos CL191, mm_R, RR191_0, if_neg n192, if_pos CL191, RR191_1, if_neg n194, if_pos CL192]
          refine c_become w192 w194 (by omega) g1 (by omega) (by omega) _ (fun I2 f1 f2 => ?_)
          have F2 : FrR 191 196 I1 I2 := FrR_1 f2 (by omega) (by omega)
          have c2 : I2 191 2 = nI c := by rw [f2 191 (by omega) (by omega)]; exact c1
          rw [mm_C, if_pos CL191, if_pos CL191, mm_sI, mm_I, c2, nI_1 c]
          exact fin I2 (FrR_tr F1 F2) (Cl_fr F2 (by omega) l1) c2 (fun q => by omega) (fun _ => f1)
        · rw [if_neg (nI_ne0 (by omega) (by omega)), if_pos CL191, if_pos CL191, mm_sI, nI_1 c]
          exact fin I1 F1 l1 c1 (fun _ => k192) (fun q => absurd q c0)
      · have e2 : alB (farP ns (spl k n) D) ns.length 0 = false := by simpa using e2
        rw [if_pos (bI_0.mpr e2)]
        exact next (by unfold newP; rw [e2, Bool.and_false])
    · have e1 : tghB (spl k n) = false := by simpa using e1
      rw [if_pos (bI_0.mpr e1)]
      exact next (by unfold newP; rw [e1, Bool.false_and])
theorem c_find {I : Nat → Nat → Int32} {n D : Nat} (hn : n ≤ 4) (hD : D ≤ 4) (hl : Cl I 3 ns ct) (Q : Mem → Prop) (h : ∀ I', I' 191 2 = nI (cnt (newP ns n D) (6 ^ n) 0) → (0 < cnt (newP ns n D) (6 ^ n) 0 → Rl I' 192 (spl (fs (newP ns n D) (6 ^ n) 0) n)) → FrR 191 196 I I' → Q (mm L I' J)) : WV (d + 3) i_NewN_find [.ref 191, .ref 3, .int (nI n), .int (nI D)] (mm L I J) Q := by
  have e6 : (6 : Int32) = nI 6 := by decide
  have p2 : 6 ^ n ≤ 6 ^ 4 := Nat.pow_le_pow_right (by omega) (by omega)
  have F1 : FrR 191 196 I (up2 I 191 2 0) := FrR_u (by omega) (by omega)
  rw [E_NewN_find, mm_C, if_pos CL191, mm_sI, e6, c_pow (by omega) (by omega), lN_i]
  have := c_find_loop (d := d) (L := L) (J := J) (ns := ns) (ct := ct) hn hD (show 6 ^ n ≤ 1296 by omega) (QV Q) (6 ^ n) 0 0 (up2 I 191 2 0) (by omega) (Nat.le_refl _) (Cl_fr F1 (by omega) hl) (by rw [up2_same, nI_0]) (fun I' u1 u2 u3 u4 => h I' (by rw [Nat.zero_add] at u1; exact u1) (u3 rfl) (FrR_tr F1 u4))
  rw [nI_0] at this
  exact this
end NewN
