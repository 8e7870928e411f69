theorem w196 : Rw 196 24 := by unfold Rw; decide
theorem w198 : Rw 198 24 := by unfold Rw; decide
section KN5
variable {d L : Nat} {I : Nat → Nat → Int32} {J : Nat → Nat → Int64} {ns : List (List Nat)} {ct : List Nat} {ps : List Cp} {im : Nat → Option Cp} {tx : List Nat} {tr : Int64}
theorem ClR_J (h : ClR I J ns ct ps im tx tr) (v : Int64) : ClR I (up2 J 0 11 v) ns ct ps im tx v := ⟨h.1, h.2.1, h.2.2.1, h.2.2.2.1, h.2.2.2.2.1, up2_same _ _ _ _⟩
theorem k_rateY (h : ClR I J ns ct ps im tx tr) {j : Nat} (hj : j < ns.length) (y : Int32) (Q : Int32 → Mem → Prop) : WI (d + 6) i_KN_rate [.ref 0, .int y, .int (nI j)] (mm L I J) Q ↔ (if Int32.toInt y = 0 then Q (nI (nmO ns j).length) (mm L I (up2 J 0 11 (tr + 1))) else if Int32.toInt y = 1 then Q (nI (nmO ns j).length + nI (las (nmO ns j))) (mm L I (up2 J 0 11 (tr + 10 + 1))) else if Int32.toInt y = 2 then Q (nI (nmO ns j).length - nI (pop (likN ns j))) (mm L I (up2 J 0 11 (tr + 100 + 1))) else if Int32.toInt y = 3 then Q (2 * (nI (nmO ns j).length + nI (las (nmO ns j)))) (mm L I (up2 J 0 11 (tr + 1000 + 10 + 1))) else if Int32.toInt y = 4 then Q (nI (nmO ns j).length - nI (pop (likN ns j)) + nI j) (mm L I (up2 J 0 11 (tr + 10000 + 100 + 1))) else if Int32.toInt y = 5 then Q (nI (nmO ns j).length + nI (roo (nmO ns j))) (mm L I (up2 J 0 11 (tr + 100000 + 1))) else Q (-1000000) (mm L I J)) := by
  have t := h.2.2.2.2.2
  rw [E_KN_rate]
  simp only [mm_C, mm_R, mm_L, mm_I, mm_sI, CL0, CL1, CL3, CL5, CL19, RR0_0, RR0_1, RR0_2, RR3_1, n1, n3, n5, n19, ↓reduceIte]
  rw [c_hasY Cw_3 h.1 hj, if_neg i10]
  simp only [mm_C, mm_R, mm_L, mm_I, mm_sI, CL0, CL1, CL3, CL5, CL19, RR0_0, RR0_1, RR0_2, RR3_1, n1, n3, n5, n19, ↓reduceIte]
  rw [c_asH h.1 hj, c_asC h.1 hj, c_asL h.1 hj, c_asF h.1 hj, c_asT h.1 hj, c_asW h.1 hj, t]
theorem k_campF (h : ClR I J ns ct ps im tx tr) {k : Nat} (hf : flt tx tx.length 0 0 0 false = some k) (hk : k ≤ 200) (Q : Int32 → Mem → Prop) : WI (d + 7) i_KN_camp [.ref 0] (mm L I J) Q ↔ Q (-10 - nI k) (mm L I J) := by
  have e : ¬ nI k = -1 := fun q => by
    have h0 : ¬ nI k < 0 := nI_pos (by omega)
    rw [q] at h0
    exact h0 (by decide)
  rw [E_KN_camp]
  simp only [mm_C, mm_R, mm_L, mm_I, mm_sI, CL0, CL1, CL3, CL5, CL19, RR0_0, RR0_1, RR0_2, RR3_1, n1, n3, n5, n19, ↓reduceIte]
  rw [c_fault h.2.2.1 h.2.2.2.1, hf]
  show (if nI k = -1 then _ else _) ↔ _
  rw [if_neg e]
  exact Iff.rfl
theorem k_camp_loop (h : ClR I J ns ct [] im [] tr) (x : Int32) (Q : Option Value → Mem → Prop) (hQ : ∀ I', ClR I' J ns ct [] (fun _ => none) [] tr → FrR 182 183 I I' → Q (some (.int (nI ns.length))) (mm L I' J)) : Wn (d + 1) i_KN_camp 45 [(0, .ref 0), (1, .int x), (2, .int 0)] [] (mm L I J) Q := by
  obtain ⟨a1, ⟨w, a2⟩, a3, a4, a5, a6⟩ := id h
  have e1 : (0 : Int32) + 1 = 1 := by decide
  have e2 : (1 : Int32) + 1 = 2 := by decide
  have e3 : Int32.toNatClampNeg 0 = 0 := by decide
  have e4 : Int32.toNatClampNeg 1 = 1 := by decide
  have hF : FrR 182 183 I (up2 (up2 I 182 0 0) 182 1 0) := FrR_tr (FrR_u (by omega) (by omega)) (FrR_u (by omega) (by omega))
  rw [H_KN_camp_45, if_pos (by decide)]
  simp only [mm_C, mm_R, mm_L, mm_I, mm_sI, CL0, CL1, CL3, CL5, CL19, RR0_0, RR0_1, RR0_2, RR3_1, n1, n3, n5, n19, ↓reduceIte, RR0_4, n182, CL182, LN182, vpb0, e1, e3]
  rw [if_pos ⟨trivial, by decide⟩, H_KN_camp_45, if_pos (by decide)]
  simp only [mm_C, mm_R, mm_L, mm_I, mm_sI, CL0, CL1, CL3, CL5, CL19, RR0_0, RR0_1, RR0_2, RR3_1, n1, n3, n5, n19, ↓reduceIte, RR0_4, n182, CL182, LN182, vpb0, e2, e4]
  rw [if_pos ⟨trivial, by decide⟩, H_KN_camp_45, if_neg (by decide)]
  have t := (Cl_fr hF (by omega) a1).1
  simp only [mm_C, mm_R, mm_L, mm_I, mm_sI, CL0, CL1, CL3, CL5, CL19, RR0_0, RR0_1, RR0_2, RR3_1, n1, n3, n5, n19, ↓reduceIte, t]
  refine hQ _ ⟨Cl_fr hF (by omega) a1, ⟨w, PcR_fr hF (by omega) a2⟩, TxR_fr hF (by omega) a3, SxR_fr hF (by omega) a4, ?_, a6⟩ hF
  intro m hm
  refine ⟨?_, fun p hp => by cases hp⟩
  rcases (show m = 0 ∨ m = 1 by omega) with e | e
  · rw [e, up2_other _ _ _ (by omega), up2_same]
    rfl
  · rw [e, up2_same]
    rfl
theorem k_campY (h : ClR I J ns ct ps im tx tr) (hf : flt tx tx.length 0 0 0 false = none) (Q : Int32 → Mem → Prop) (hQ : ∀ I', ClR I' J (tellF tx tx.length 0 []) [] [] (fun _ => none) [] tr → FrR 0 248 I I' → Q (nI (tellF tx tx.length 0 []).length) (mm L I' J)) : WI (d + 7) i_KN_camp [.ref 0] (mm L I J) Q := by
  obtain ⟨a1, ⟨w, a2⟩, a3, a4, a5, a6⟩ := id h
  rw [E_KN_camp]
  simp only [mm_C, mm_R, mm_L, mm_I, mm_sI, CL0, CL1, CL3, CL5, CL19, RR0_0, RR0_1, RR0_2, RR3_1, n1, n3, n5, n19, ↓reduceIte]
  rw [c_fault a3 a4, hf, if_pos (by rfl)]
  simp only [mm_C, mm_R, mm_L, mm_I, mm_sI, CL0, CL1, CL3, CL5, CL19, RR0_0, RR0_1, RR0_2, RR3_1, n1, n3, n5, n19, ↓reduceIte]
  refine c_tell a3 a4 hf _ (fun I' g1 g2 => ?_)
  have h1 := ClR_cur h g2 g1
  simp only [mm_C, mm_R, mm_L, mm_I, mm_sI, CL0, CL1, CL3, CL5, CL19, RR0_0, RR0_1, RR0_2, RR3_1, n1, n3, n5, n19, ↓reduceIte]
  rw [E_Text_empty]
  simp only [mm_C, mm_R, mm_L, mm_I, mm_sI, CL0, CL1, CL3, CL5, CL19, RR0_0, RR0_1, RR0_2, RR3_1, n1, n3, n5, n19, ↓reduceIte]
  have h2 := ClR_tx0 h1
  obtain ⟨b1, ⟨w, b2⟩, b3, b4, b5, b6⟩ := id h2
  refine c_forget b2 _ (fun I'' f1 f2 => ?_)
  have h3 : ClR I'' J (tellF tx tx.length 0 []) [] [] im [] tr := ⟨Cl_fr f2 (by omega) b1, ⟨w, f1⟩, TxR_fr f2 (by omega) b3, SxR_fr f2 (by omega) b4, ImR_fr f2 (by omega) b5, b6⟩
  refine k_camp_loop h3 _ (QI Q) (fun I3 p1 p2 => ?_)
  refine hQ I3 p1 (FrR_tr (FrR_w g2 (by omega) (by omega)) (FrR_tr (FrR_u (by omega) (by omega)) (FrR_tr (FrR_w f2 (by omega) (by omega)) (FrR_w p2 (by omega) (by omega)))))
theorem k_bendN (h : ClR I J ns ct ps im tx tr) {x y : Int32} (hx : x < 0 ∨ nI ns.length ≤ x) (Q : Int32 → Mem → Prop) : WI (d + 2) i_KN_bends [.ref 0, .int x, .int y] (mm L I J) Q ↔ Q (-1) (mm L I J) := by
  rw [E_KN_bends]
  simp only [mm_C, mm_R, mm_L, mm_I, mm_sI, CL0, CL1, CL3, CL5, CL19, RR0_0, RR0_1, RR0_2, RR3_1, n1, n3, n5, n19, ↓reduceIte]
  rw [c_hasN Cw_3 h.1 hx, if_pos rfl]
theorem k_bendN2 (h : ClR I J ns ct ps im tx tr) {a : Nat} (ha : a < ns.length) {y : Int32} (hy : y < 0 ∨ nI ns.length ≤ y) (Q : Int32 → Mem → Prop) : WI (d + 2) i_KN_bends [.ref 0, .int (nI a), .int y] (mm L I J) Q ↔ Q (-1) (mm L I J) := by
  rw [E_KN_bends]
  simp only [mm_C, mm_R, mm_L, mm_I, mm_sI, CL0, CL1, CL3, CL5, CL19, RR0_0, RR0_1, RR0_2, RR3_1, n1, n3, n5, n19, ↓reduceIte]
  rw [c_hasY Cw_3 h.1 ha, if_neg i10]
  simp only [mm_C, mm_R, mm_L, mm_I, mm_sI, CL0, CL1, CL3, CL5, CL19, RR0_0, RR0_1, RR0_2, RR3_1, n1, n3, n5, n19, ↓reduceIte]
  rw [c_hasN Cw_3 h.1 hy, if_pos rfl]
theorem k_bendN3 (h : ClR I J ns ct ps im tx tr) {a : Nat} (ha : a < ns.length) (Q : Int32 → Mem → Prop) : WI (d + 2) i_KN_bends [.ref 0, .int (nI a), .int (nI a)] (mm L I J) Q ↔ Q (-1) (mm L I J) := by
  rw [E_KN_bends]
  simp only [mm_C, mm_R, mm_L, mm_I, mm_sI, CL0, CL1, CL3, CL5, CL19, RR0_0, RR0_1, RR0_2, RR3_1, n1, n3, n5, n19, ↓reduceIte]
  rw [c_hasY Cw_3 h.1 ha, if_neg i10]
  simp only [mm_C, mm_R, mm_L, mm_I, mm_sI, CL0, CL1, CL3, CL5, CL19, RR0_0, RR0_1, RR0_2, RR3_1, n1, n3, n5, n19, ↓reduceIte]
  rw [c_hasY Cw_3 h.1 ha, if_neg i10]
def joi (l m : List Nat) : List Nat := tieAll (tieAll [] l) m
theorem joi_len (l m : List Nat) : (joi l m).length ≤ l.length + m.length := by
  have h1 := tieAll_len m (tieAll [] l)
  have h2 := tieAll_len l []
  rw [List.length_nil] at h2
  unfold joi
  omega
theorem k_bend (h : ClR I J ns ct ps im tx tr) {a b : Nat} (ha : a < ns.length) (hb : b < ns.length) (hne : a ≠ b) (Q : Int32 → Mem → Prop)
    (hF : ¬ ((joi (nmO ns a) (nmO ns b)).length ≤ 12 ∧ (joi (nmO ns b) (nmO ns a)).length ≤ 12) → ∀ I', ClR I' J ns ct ps im tx tr → FrR 0 248 I I' → Q (-3) (mm L I' J))
    (hY : (joi (nmO ns a) (nmO ns b)).length ≤ 12 → (joi (nmO ns b) (nmO ns a)).length ≤ 12 → ∀ I', ClR I' J ((ns.set a (joi (nmO ns a) (nmO ns b))).set b (joi (nmO ns b) (nmO ns a))) ct (((ns, ct) :: ps).take 10) im tx tr → FrR 0 248 I I' → Q (nI (joi (nmO ns a) (nmO ns b)).length) (mm L I' J)) : WI (d + 6) i_KN_bends [.ref 0, .int (nI a), .int (nI b)] (mm L I J) Q := by
  have h6 := h.1.2.1
  have wa := w3 (show a < 6 by omega)
  have wb := w3 (show b < 6 by omega)
  have la := l3 h.1 ha
  have lb := l3 h.1 hb
  have j1 := joi_len (nmO ns a) (nmO ns b)
  have j2 := joi_len (nmO ns b) (nmO ns a)
  rw [E_KN_bends]
  simp only [mm_C, mm_R, mm_L, mm_I, mm_sI, CL0, CL1, CL3, CL5, CL19, RR0_0, RR0_1, RR0_2, RR3_1, n1, n3, n5, n19, ↓reduceIte]
  rw [c_hasY Cw_3 h.1 ha, if_neg i10]
  simp only [mm_C, mm_R, mm_L, mm_I, mm_sI, CL0, CL1, CL3, CL5, CL19, RR0_0, RR0_1, RR0_2, RR3_1, n1, n3, n5, n19, ↓reduceIte]
  rw [c_hasY Cw_3 h.1 hb, if_neg i10, if_neg (fun q => hne ((nI_eq (by omega) (by omega)).mp q))]
  simp only [mm_C, mm_R, mm_L, mm_I, mm_sI, CL0, CL1, CL3, CL5, CL19, RR0_0, RR0_1, RR0_2, RR3_1, n1, n3, n5, n19, ↓reduceIte, RR0_7, RR0_8, n196, n198]
  rw [c_name3 (by omega)]
  simp only [mm_C, mm_R, mm_L, mm_I, mm_sI, CL0, CL1, CL3, CL5, CL19, RR0_0, RR0_1, RR0_2, RR3_1, n1, n3, n5, n19, ↓reduceIte]
  rw [c_name3 (by omega), mm_C, if_pos w196.1]
  refine c_joined w196 wa (by omega) wb (by omega) (r3 h.1 ha) la (r3 h.1 hb) lb (by omega) _ (fun I1 p1 p2 => ?_)
  have h1 := ClR_sc h (FrR_1 (lo := 196) (hi := 198) p2 (by omega) (by omega)) (by omega) (by omega)
  simp only [mm_C, mm_R, mm_L, mm_I, mm_sI, CL0, CL1, CL3, CL5, CL19, RR0_0, RR0_1, RR0_2, RR3_1, n1, n3, n5, n19, ↓reduceIte, RR0_7, RR0_8, n196, n198]
  rw [c_name3 (by omega)]
  simp only [mm_C, mm_R, mm_L, mm_I, mm_sI, CL0, CL1, CL3, CL5, CL19, RR0_0, RR0_1, RR0_2, RR3_1, n1, n3, n5, n19, ↓reduceIte]
  rw [c_name3 (by omega), mm_C, if_pos w198.1]
  refine c_joined w198 wb (by omega) wa (by omega) (r3 h1.1 hb) lb (r3 h1.1 ha) la (by omega) _ (fun I2 q1 q2 => ?_)
  have h2 := ClR_sc h1 (FrR_1 (lo := 198) (hi := 200) q2 (by omega) (by omega)) (by omega) (by omega)
  have F2 : FrR 0 248 I I2 := FrR_tr (FrR_1 p2 (by omega) (by omega)) (FrR_1 q2 (by omega) (by omega))
  have p1 : Rl I2 196 (joi (nmO ns a) (nmO ns b)) := Rl_fr w198 w196 (by omega) q2 p1
  have q1 : Rl I2 198 (joi (nmO ns b) (nmO ns a)) := q1
  simp only [mm_C, mm_R, mm_L, mm_I, mm_sI, CL0, CL1, CL3, CL5, CL19, RR0_0, RR0_1, RR0_2, RR3_1, n1, n3, n5, n19, ↓reduceIte, RR0_7, RR0_8, n196, n198, w196.1, w198.1, p1.1, q1.1]
  by_cases e1 : (joi (nmO ns a) (nmO ns b)).length ≤ 12
  · have x1 : ¬ nI 12 < nI (joi (nmO ns a) (nmO ns b)).length := nI_nlt e1 (by omega)
    have x1 : ¬ 12 < nI (joi (nmO ns a) (nmO ns b)).length := x1
    rw [if_neg x1]
    by_cases e2 : (joi (nmO ns b) (nmO ns a)).length ≤ 12
    · have x2 : ¬ nI 12 < nI (joi (nmO ns b) (nmO ns a)).length := nI_nlt e2 (by omega)
      have x2 : ¬ 12 < nI (joi (nmO ns b) (nmO ns a)).length := x2
      rw [if_neg x2]
      obtain ⟨a1, ⟨w, a2⟩, a3, a4, a5, a6⟩ := id h2
      refine c_rem a2 a1 _ (fun I3 w' g1 g2 => ?_)
      have h3 : ClR I3 J ns ct (((ns, ct) :: ps).take 10) im tx tr := ⟨Cl_fr g2 (by omega) a1, ⟨w', g1⟩, TxR_fr g2 (by omega) a3, SxR_fr g2 (by omega) a4, ImR_fr g2 (by omega) a5, a6⟩
      have p3 : Rl I3 196 (joi (nmO ns a) (nmO ns b)) := Rl_keep p1 (g2 _ (by omega)) (g2 _ (by omega))
      have q3 : Rl I3 198 (joi (nmO ns b) (nmO ns a)) := Rl_keep q1 (g2 _ (by omega)) (g2 _ (by omega))
      simp only [mm_C, mm_R, mm_L, mm_I, mm_sI, CL0, CL1, CL3, CL5, CL19, RR0_0, RR0_1, RR0_2, RR3_1, n1, n3, n5, n19, ↓reduceIte]
      rw [c_name3 (by omega)]
      simp only [mm_C, mm_R, mm_L, mm_I, mm_sI, CL0, CL1, CL3, CL5, CL19, RR0_0, RR0_1, RR0_2, RR3_1, n1, n3, n5, n19, ↓reduceIte, RR0_7, n196]
      rw [if_pos wa.1]
      refine c_become wa w196 (by omega) p3 (by omega) e1 _ (fun I4 f1 f2 => ?_)
      have h4 := ClR_cur h3 (FrR_1 f2 (by omega) (by omega)) (set3 h3.1 ha f2 f1 e1)
      have p4 : Rl I4 196 (joi (nmO ns a) (nmO ns b)) := Rl_fr wa w196 (by omega) f2 p3
      have q4 : Rl I4 198 (joi (nmO ns b) (nmO ns a)) := Rl_fr wa w198 (by omega) f2 q3
      simp only [mm_C, mm_R, mm_L, mm_I, mm_sI, CL0, CL1, CL3, CL5, CL19, RR0_0, RR0_1, RR0_2, RR3_1, n1, n3, n5, n19, ↓reduceIte]
      rw [c_name3 (by omega)]
      simp only [mm_C, mm_R, mm_L, mm_I, mm_sI, CL0, CL1, CL3, CL5, CL19, RR0_0, RR0_1, RR0_2, RR3_1, n1, n3, n5, n19, ↓reduceIte, RR0_8, n198]
      rw [if_pos wb.1]
      refine c_become wb w198 (by omega) q4 (by omega) e2 _ (fun I5 u1 u2 => ?_)
      have h5 := ClR_cur h4 (FrR_1 u2 (by omega) (by omega)) (set3 h4.1 (by rw [List.length_set]; exact hb) u2 u1 e2)
      have p5 : Rl I5 196 (joi (nmO ns a) (nmO ns b)) := Rl_fr wb w196 (by omega) u2 p4
      simp only [mm_C, mm_R, mm_L, mm_I, mm_sI, CL0, CL1, CL3, CL5, CL19, RR0_0, RR0_1, RR0_2, RR3_1, n1, n3, n5, n19, ↓reduceIte, RR0_7, n196, w196.1, p5.1]
      exact hY e1 e2 I5 h5 (FrR_tr F2 (FrR_tr (FrR_w g2 (by omega) (by omega)) (FrR_tr (FrR_1 f2 (by omega) (by omega)) (FrR_1 u2 (by omega) (by omega)))))
    · have x2 : nI 12 < nI (joi (nmO ns b) (nmO ns a)).length := nI_lt (by omega) (by omega)
      have x2 : 12 < nI (joi (nmO ns b) (nmO ns a)).length := x2
      rw [if_pos x2]
      exact hF (fun q => e2 q.2) I2 h2 F2
  · have x1 : nI 12 < nI (joi (nmO ns a) (nmO ns b)).length := nI_lt (by omega) (by omega)
    have x1 : 12 < nI (joi (nmO ns a) (nmO ns b)).length := x1
    rw [if_pos x1]
    exact hF (fun q => e1 q.1) I2 h2 F2
end KN5
