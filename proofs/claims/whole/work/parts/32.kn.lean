/-! ===== the class' state and its deeds ===== -/
theorem n1 : ¬ (1 : Nat) = 999999 := by decide
theorem n2 : ¬ (2 : Nat) = 999999 := by decide
theorem n3 : ¬ (3 : Nat) = 999999 := by decide
theorem n5 : ¬ (5 : Nat) = 999999 := by decide
theorem n19 : ¬ (19 : Nat) = 999999 := by decide
theorem n20 : ¬ (20 : Nat) = 999999 := by decide
theorem n181 : ¬ (181 : Nat) = 999999 := by decide
theorem n182 : ¬ (182 : Nat) = 999999 := by decide
theorem CL5 : CL 5 = 4 := by decide
theorem i10 : ¬ (1 : Int32) = 0 := by decide
def ImR (I : Nat → Nat → Int32) (im : Nat → Option Cp) : Prop := ∀ m, m < 2 → I 182 m = bI (im m).isSome ∧ ∀ p, im m = some p → Cl I (216 + 16 * m) p.1 p.2
theorem ImR_fr {I I' : Nat → Nat → Int32} {lo hi : Nat} {im : Nat → Option Cp} (hF : FrR lo hi I I') (hc : hi ≤ 182 ∨ 248 ≤ lo ∨ (183 ≤ lo ∧ hi ≤ 216)) (h : ImR I im) : ImR I' im := by
  intro m hm
  obtain ⟨h1, h2⟩ := h m hm
  refine ⟨by rw [hF 182 (by omega)]; exact h1, fun p hp => Cl_fr hF (by omega) (h2 p hp)⟩
def ClR (I : Nat → Nat → Int32) (J : Nat → Nat → Int64) (ns : List (List Nat)) (ct : List Nat) (ps : List Cp) (im : Nat → Option Cp) (tx : List Nat) (tr : Int64) : Prop := Cl I 3 ns ct ∧ (∃ w, PcR I w ps) ∧ TxR I tx ∧ SxR I ∧ ImR I im ∧ J 0 11 = tr
section KN1
variable {d L : Nat} {I : Nat → Nat → Int32} {J : Nat → Nat → Int64} {ns : List (List Nat)} {ct : List Nat} {ps : List Cp} {im : Nat → Option Cp} {tx : List Nat} {tr : Int64}
theorem ClR_sc {I' : Nat → Nat → Int32} {lo hi : Nat} (h : ClR I J ns ct ps im tx tr) (hF : FrR lo hi I I') (h1 : 183 ≤ lo) (h2 : hi ≤ 216) : ClR I' J ns ct ps im tx tr := by
  obtain ⟨a1, ⟨w, a2⟩, a3, a4, a5, a6⟩ := h
  exact ⟨Cl_fr hF (by omega) a1, ⟨w, PcR_fr hF (by omega) a2⟩, TxR_fr hF (by omega) a3, SxR_fr hF (by omega) a4, ImR_fr hF (by omega) a5, a6⟩
/-- the class remembers -/
theorem k_rem (h : ClR I J ns ct ps im tx tr) (Q : Mem → Prop) (hq : ∀ I', ClR I' J ns ct (((ns, ct) :: ps).take 10) im tx tr → FrR 0 248 I I' → Q (mm L I' J)) : WV (d + 3) i_Past_remember [.ref 19, .ref 3] (mm L I J) Q := by
  obtain ⟨a1, ⟨w, a2⟩, a3, a4, a5, a6⟩ := h
  refine c_rem a2 a1 _ (fun I' w' g1 g2 => ?_)
  exact hq I' ⟨Cl_fr g2 (by omega) a1, ⟨w', g1⟩, TxR_fr g2 (by omega) a3, SxR_fr g2 (by omega) a4, ImR_fr g2 (by omega) a5, a6⟩ (FrR_w g2 (by omega) (by omega))
theorem ClR_cur {I' : Nat → Nat → Int32} {ns' : List (List Nat)} {ct' : List Nat} (h : ClR I J ns ct ps im tx tr) (hF : FrR 3 19 I I') (hl : Cl I' 3 ns' ct') : ClR I' J ns' ct' ps im tx tr := by
  obtain ⟨a1, ⟨w, a2⟩, a3, a4, a5, a6⟩ := h
  exact ⟨hl, ⟨w, PcR_fr hF (by omega) a2⟩, TxR_fr hF (by omega) a3, SxR_fr hF (by omega) a4, ImR_fr hF (by omega) a5, a6⟩
theorem k_typeN (x : Int32) (hx : x < 0 ∨ 255 < x) (M : Mem) (Q : Int32 → Mem → Prop) : WI (d + 1) i_KN_type [.ref 0, .int x] M Q ↔ Q (-1) M := by
  have hn : ¬ (0 ≤ x ∧ x ≤ 255) := fun q => hx.elim (fun h => absurd h (Int32.not_lt.mpr q.1)) (fun h => absurd h (Int32.not_lt.mpr q.2))
  rw [E_KN_type, c_within, decide_eq_false hn, if_pos (by rfl)]
theorem c255 {q : Nat} (hq : q < 256) : decide ((0 : Int32) ≤ nI q ∧ nI q ≤ 255) = true := by
  have h1 : nI q ≤ nI 255 := nI_le (by omega) (by omega)
  exact decide_eq_true ⟨nI_pos' (by omega), h1⟩
theorem k_typeF (h : ClR I J ns ct ps im tx tr) {q : Nat} (hq : q < 256) (hl : tx.length = 200) (Q : Int32 → Mem → Prop) : WI (d + 1) i_KN_type [.ref 0, .int (nI q)] (mm L I J) Q ↔ Q (-3) (mm L I J) := by
  have t1 := h.2.2.1.1
  have e : ¬ nI tx.length < 200 := by rw [hl]; decide
  rw [E_KN_type, c_within, c255 hq, if_neg (by decide)]
  simp only [mm_C, mm_R, mm_L, mm_I, mm_sI, CL0, CL1, CL3, CL5, CL19, RR0_0, RR0_1, RR0_2, RR3_1, n1, n3, n5, n19, ↓reduceIte]
  rw [E_Text_append]
  simp only [mm_C, mm_R, mm_L, mm_I, mm_sI, CL0, CL1, CL3, CL5, CL19, RR0_0, RR0_1, RR0_2, RR3_1, n1, n3, n5, n19, ↓reduceIte, t1]
  rw [if_neg e]
theorem k_typeY (h : ClR I J ns ct ps im tx tr) {q : Nat} (hq : q < 256) (hl : tx.length < 200) (Q : Int32 → Mem → Prop) (hQ : ∀ I', ClR I' J ns ct ps im (tx ++ [q]) tr → FrR 0 248 I I' → Q (nI (tx.length + 1)) (mm L I' J)) : WI (d + 1) i_KN_type [.ref 0, .int (nI q)] (mm L I J) Q := by
  obtain ⟨a1, ⟨w, a2⟩, a3, a4, a5, a6⟩ := id h
  have t1 := a3.1
  have e : nI tx.length < nI 200 := nI_lt hl (by omega)
  have e : nI tx.length < 200 := e
  have ech : vp_nar .char (Int32.toUInt32 (nI q) % 65536).toInt32 = nI q := by
    rw [pk_vc, pk_char, pk_tn (by omega), Nat.mod_eq_of_lt (by omega)]
  have u1 : up2 I 2 tx.length (nI q) 1 1 = nI tx.length := by rw [up2_ne _ _ _ (by omega)]; exact t1
  rw [E_KN_type, c_within, c255 hq, if_neg (by decide)]
  simp only [mm_C, mm_R, mm_L, mm_I, mm_sI, CL0, CL1, CL3, CL5, CL19, RR0_0, RR0_1, RR0_2, RR3_1, n1, n3, n5, n19, ↓reduceIte]
  rw [E_Text_append]
  simp only [mm_C, mm_R, mm_L, mm_I, mm_sI, CL0, CL1, CL3, CL5, CL19, RR0_0, RR0_1, RR0_2, RR3_1, n1, n3, n5, n19, ↓reduceIte, t1, CL2, LN2, RR1_0, n2, ech]
  rw [if_pos e, if_pos ⟨trivial, inb_nI (by omega) (by omega)⟩, ix_nI (by omega), if_neg i10, up2_same, u1, nI_1]
  have hF : FrR 1 3 I (up2 (up2 I 2 tx.length (nI q)) 1 1 (nI (tx.length + 1))) := FrR_tr (FrR_u (by omega) (by omega)) (FrR_u (by omega) (by omega))
  refine hQ _ ⟨Cl_fr hF (by omega) a1, ⟨w, PcR_fr hF (by omega) a2⟩, ⟨?_, ?_, fun k hk => ?_⟩, SxR_fr hF (by omega) a4, ImR_fr hF (by omega) a5, a6⟩ (FrR_w hF (by omega) (by omega))
  · rw [up2_same, List.length_append]
    rfl
  · rw [List.length_append, List.length_singleton]
    omega
  · rw [List.length_append, List.length_singleton] at hk
    rw [up2_ne _ _ _ (by omega)]
    by_cases e2 : k = tx.length
    · rw [e2, up2_same, getD_end]
      exact ⟨rfl, hq⟩
    · rw [up2_other _ _ _ e2, getD_app (by omega)]
      exact a3.2.2 k (by omega)
theorem ClR_tx0 (h : ClR I J ns ct ps im tx tr) : ClR (up2 I 1 1 0) J ns ct ps im [] tr := by
  obtain ⟨a1, ⟨w, a2⟩, a3, a4, a5, a6⟩ := h
  have hF : FrR 1 3 I (up2 I 1 1 0) := FrR_u (by omega) (by omega)
  exact ⟨Cl_fr hF (by omega) a1, ⟨w, PcR_fr hF (by omega) a2⟩, ⟨by rw [up2_same]; rfl, Nat.zero_le _, fun k hk => absurd hk (Nat.not_lt_zero k)⟩, SxR_fr hF (by omega) a4, ImR_fr hF (by omega) a5, a6⟩
theorem k_clear (h : ClR I J ns ct ps im tx tr) (Q : Int32 → Mem → Prop) (hQ : ∀ I', ClR I' J ns ct ps im [] tr → FrR 0 248 I I' → Q (nI tx.length) (mm L I' J)) : WI (d + 1) i_KN_clear [.ref 0] (mm L I J) Q := by
  have t1 := h.2.2.1.1
  rw [E_KN_clear]
  simp only [mm_C, mm_R, mm_L, mm_I, mm_sI, CL0, CL1, CL3, CL5, CL19, RR0_0, RR0_1, RR0_2, RR3_1, n1, n3, n5, n19, ↓reduceIte, t1]
  rw [E_Text_empty]
  simp only [mm_C, mm_R, mm_L, mm_I, mm_sI, CL0, CL1, CL3, CL5, CL19, RR0_0, RR0_1, RR0_2, RR3_1, n1, n3, n5, n19, ↓reduceIte]
  exact hQ _ (ClR_tx0 h) (FrR_u (by omega) (by omega))
theorem k_count (h : ClR I J ns ct ps im tx tr) (x : Int32) (Q : Int32 → Mem → Prop) : WI d i_KN_count [.ref 0, .int x] (mm L I J) Q ↔ Q (if Int32.toInt x = 0 then nI ns.length else if Int32.toInt x = 1 then nI tx.length else -1) (mm L I J) := by
  have t1 := h.2.2.1.1
  have t2 := h.1.1
  rw [E_KN_count]
  simp only [mm_C, mm_R, mm_L, mm_I, mm_sI, CL0, CL1, CL3, CL5, CL19, RR0_0, RR0_1, RR0_2, RR3_1, n1, n3, n5, n19, ↓reduceIte, t1, t2]
  rw [pif (Q := Q), pif (Q := Q)]
theorem k_trace (h : ClR I J ns ct ps im tx tr) (Q : Int64 → Mem → Prop) : WL d i_KN_trace [.ref 0] (mm L I J) Q ↔ Q tr (mm L I J) := by
  have t1 := h.2.2.2.2.2
  rw [E_KN_trace]
  simp only [mm_C, mm_R, mm_L, mm_I, mm_sI, CL0, CL1, CL3, CL5, CL19, RR0_0, RR0_1, RR0_2, RR3_1, n1, n3, n5, n19, ↓reduceIte, mm_J, t1]
/-- a length, or a turn -/
def lot (l : List Nat) (x : Int32) : Int32 := if x = -1 then nI l.length else if 0 ≤ x ∧ x ≤ nI l.length - 1 then nI (l.getD x.toNatClampNeg 0) else -1
theorem c_lot {r cp : Nat} {l : List Nat} (hr : Rw r cp) (hl : Rl I r l) (hc : l.length ≤ cp) (x : Int32) (Q : Int32 → Mem → Prop) : WI (d + 1) i_KN_lengthOrTurn [.ref r, .int x] (mm L I J) Q ↔ Q (lot l x) (mm L I J) := by
  have hcp := hr.2.2.2.2.2
  rw [E_KN_lengthOrTurn, mm_C, mm_I, if_pos hr.1, if_pos hr.1, hl.1, c_within]
  unfold lot
  by_cases e : x = -1
  · rw [if_pos e, if_pos e]
  · rw [if_neg e, if_neg e]
    by_cases e2 : 0 ≤ x ∧ x ≤ nI l.length - 1
    · rw [decide_eq_true e2, if_neg (by decide), if_pos e2, mm_C, if_pos hr.1]
      have h0 : 0 < l.length := by
        by_cases h0 : 0 < l.length
        · exact h0
        · exfalso
          have : l.length = 0 := by omega
          rw [this] at e2
          exact absurd (Int32.le_trans e2.1 e2.2) (by decide)
      rw [nI_m1 h0] at e2
      obtain ⟨j, j1, j2⟩ := nI_of (Int32.not_lt.mpr e2.1)
      rw [j2] at e2
      have j3 := (nI_leI j1 (by omega)).mp e2.2
      rw [j2, c_at hr hl hc j1, gt_lt (by omega), ix_nI j1]
    · rw [decide_eq_false e2, if_pos (by rfl), if_neg e2]
theorem k_nameN (h : ClR I J ns ct ps im tx tr) {x : Int32} (hx : x < 0 ∨ nI ns.length ≤ x) (y : Int32) (Q : Int32 → Mem → Prop) : WI (d + 2) i_KN_name [.ref 0, .int x, .int y] (mm L I J) Q ↔ Q (-1) (mm L I J) := by
  rw [E_KN_name]
  simp only [mm_C, mm_R, mm_L, mm_I, mm_sI, CL0, CL1, CL3, CL5, CL19, RR0_0, RR0_1, RR0_2, RR3_1, n1, n3, n5, n19, ↓reduceIte]
  rw [c_hasN Cw_3 h.1 hx, if_pos rfl]
theorem k_nameY (h : ClR I J ns ct ps im tx tr) {j : Nat} (hj : j < ns.length) (y : Int32) (Q : Int32 → Mem → Prop) : WI (d + 2) i_KN_name [.ref 0, .int (nI j), .int y] (mm L I J) Q ↔ Q (lot (nmO ns j) y) (mm L I J) := by
  have h6 := h.1.2.1
  have hr := h.1.2.2.1 j hj
  have hw := Cw_3.2.2.2.2.2.2.2 j (by omega)
  rw [E_KN_name]
  simp only [mm_C, mm_R, mm_L, mm_I, mm_sI, CL0, CL1, CL3, CL5, CL19, RR0_0, RR0_1, RR0_2, RR3_1, n1, n3, n5, n19, ↓reduceIte]
  rw [c_hasY Cw_3 h.1 hj, if_neg i10]
  simp only [mm_C, mm_R, mm_L, mm_I, mm_sI, CL0, CL1, CL3, CL5, CL19, RR0_0, RR0_1, RR0_2, RR3_1, n1, n3, n5, n19, ↓reduceIte]
  rw [c_nameOf Cw_3 (by omega), c_lot hw.2 hr.1 hr.2]
theorem k_contract (h : ClR I J ns ct ps im tx tr) (y : Int32) (Q : Int32 → Mem → Prop) : WI (d + 2) i_KN_contract [.ref 0, .int y] (mm L I J) Q ↔ Q (lot ct y) (mm L I J) := by
  rw [E_KN_contract]
  simp only [mm_C, mm_R, mm_L, mm_I, mm_sI, CL0, CL1, CL3, CL5, CL19, RR0_0, RR0_1, RR0_2, RR3_1, n1, n3, n5, n19, ↓reduceIte]
  exact c_lot (r := 5) Cw_3.2.2.2.2.2.2.1 h.1.2.2.2.1 h.1.2.2.2.2 y Q
theorem k_now (h : ClR I J ns ct ps im tx tr) (x : Int32) (Q : Int32 → Mem → Prop) : WI (d + 5) i_KN_now [.ref 0, .int x] (mm L I J) Q ↔ Q (if Int32.toInt x = 0 then bts (namP ns) ns.length 0 0 else if Int32.toInt x = 1 then nI (cnt (unlP ns) ns.length 0) else if Int32.toInt x = 2 then nI (sumL ns ns.length 0) else if Int32.toInt x = 3 then nI ps.length else -1) (mm L I J) := by
  obtain ⟨a1, ⟨w, a2⟩, a3, a4, a5, a6⟩ := id h
  have t2 := a2.2.2.1
  rw [E_KN_now]
  simp only [mm_C, mm_R, mm_L, mm_I, mm_sI, CL0, CL1, CL3, CL5, CL19, RR0_0, RR0_1, RR0_2, RR3_1, n1, n3, n5, n19, ↓reduceIte, t2]
  rw [c_named Cw_3 a1, c_unl Cw_3 a1, c_turns Cw_3 a1, pif (Q := Q), pif (Q := Q), pif (Q := Q), pif (Q := Q)]
theorem k_undo0 (h : ClR I J ns ct [] im tx tr) (Q : Int32 → Mem → Prop) : WI (d + 4) i_KN_undo [.ref 0] (mm L I J) Q ↔ Q (-2) (mm L I J) := by
  obtain ⟨a1, ⟨w, a2⟩, a3, a4, a5, a6⟩ := id h
  have t2 : I 19 2 = nI 0 := a2.2.2.1
  rw [E_KN_undo]
  simp only [mm_C, mm_R, mm_L, mm_I, mm_sI, CL0, CL1, CL3, CL5, CL19, RR0_0, RR0_1, RR0_2, RR3_1, n1, n3, n5, n19, ↓reduceIte, t2]
  rw [if_pos (by decide)]
theorem k_undo {p : Cp} (h : ClR I J ns ct (p :: ps) im tx tr) (Q : Int32 → Mem → Prop) (hQ : ∀ I', ClR I' J p.1 p.2 ps im tx tr → FrR 0 248 I I' → Q (nI ps.length) (mm L I' J)) : WI (d + 4) i_KN_undo [.ref 0] (mm L I J) Q := by
  obtain ⟨a1, ⟨w, a2⟩, a3, a4, a5, a6⟩ := id h
  have t2 : I 19 2 = nI (ps.length + 1) := a2.2.2.1
  have t3 : (p :: ps).length ≤ 10 := a2.2.2.2.1
  rw [List.length_cons] at t3
  rw [E_KN_undo]
  simp only [mm_C, mm_R, mm_L, mm_I, mm_sI, CL0, CL1, CL3, CL5, CL19, RR0_0, RR0_1, RR0_2, RR3_1, n1, n3, n5, n19, ↓reduceIte, t2]
  rw [if_neg (nI_ne0 (by omega) (by omega))]
  refine c_takeBack a2 _ (fun I' w' g1 g2 g3 => ?_)
  simp only [mm_C, mm_R, mm_L, mm_I, mm_sI, CL0, CL1, CL3, CL5, CL19, RR0_0, RR0_1, RR0_2, RR3_1, n1, n3, n5, n19, ↓reduceIte, g2.2.2.1]
  exact hQ I' ⟨g1, ⟨w', g2⟩, TxR_fr g3 (by omega) a3, SxR_fr g3 (by omega) a4, ImR_fr g3 (by omega) a5, a6⟩ (FrR_w g3 (by omega) (by omega))
end KN1
