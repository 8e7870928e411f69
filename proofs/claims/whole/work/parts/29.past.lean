/-! ===== the past of the class ===== -/
theorem CL0 : CL 0 = 6 := by decide
theorem CL1 : CL 1 = 5 := by decide
theorem CL2 : CL 2 = 11 := by decide
theorem CL3 : CL 3 = 0 := by decide
theorem CL19 : CL 19 = 3 := by decide
theorem CL20 : CL 20 = 15 := by decide
theorem CL183 : CL 183 = 1 := by decide
theorem CL191 : CL 191 = 2 := by decide
theorem RR0_0 : RR 0 0 = 1 := by decide
theorem RR0_1 : RR 0 1 = 3 := by decide
theorem RR0_2 : RR 0 2 = 19 := by decide
theorem RR1_0 : RR 1 0 = 2 := by decide
theorem RR3_1 : RR 3 1 = 5 := by decide
theorem RR19 : RR 19 0 = 20 := by decide
theorem LN20 (L : Nat) : LN L 20 = 10 := rfl
theorem LN2 (L : Nat) : LN L 2 = 200 := rfl
theorem RR20 : ∀ i, i < 10 → RR 20 i = 21 + 16 * i := by decide
theorem p_rr {i : Nat} (hi : i < 10) : RR 20 (nI i).toNatClampNeg = 21 + 16 * i := by rw [ix_nI (by omega)]; exact RR20 i hi
theorem p_ok {i : Nat} (hi : i < 10) : (rdA 15 ∧ inb (nI i) 10) ∧ RR 20 (nI i).toNatClampNeg ≠ 999999 := by
  refine ⟨⟨by decide, inb_nI hi (by omega)⟩, ?_⟩
  rw [p_rr hi]
  omega
abbrev Cp : Type := List (List Nat) × List Nat
def cp0 : Cp := ([], [])
def slot (w i : Nat) : Nat := 21 + 16 * ((w + 10 - i) % 10)
/-- the class' past: the newest camp first -/
def PcR (I : Nat → Nat → Int32) (w : Nat) (ps : List Cp) : Prop := I 19 1 = nI w ∧ w < 10 ∧ I 19 2 = nI ps.length ∧ ps.length ≤ 10 ∧ ∀ i, i < ps.length → Cl I (slot w i) (ps.getD i cp0).1 (ps.getD i cp0).2
theorem PcR_fr {I I' : Nat → Nat → Int32} {lo hi w : Nat} {ps : List Cp} (hF : FrR lo hi I I') (hc : 181 ≤ lo ∨ hi ≤ 19) (h : PcR I w ps) : PcR I' w ps := by
  obtain ⟨h1, h2, h3, h4, h5⟩ := h
  refine ⟨by rw [hF 19 (by omega)]; exact h1, h2, by rw [hF 19 (by omega)]; exact h3, h4, fun i hi => ?_⟩
  have := Nat.mod_lt (w + 10 - i) (show 0 < 10 by omega)
  exact Cl_fr hF (by unfold slot; omega) (h5 i hi)
section PastC
variable {d L : Nat} {I : Nat → Nat → Int32} {J : Nat → Nat → Int64} {ns : List (List Nat)} {ct : List Nat} {w : Nat} {ps : List Cp}
theorem PcR_push {I' : Nat → Nat → Int32} {w' : Nat} (hp : PcR I w ps) (hw : w' = (w + 1) % 10) (hF : ∀ i, i < 10 → i ≠ w' → ∀ a, 21 + 16 * i ≤ a → a < 21 + 16 * i + 16 → I' a = I a) (h1 : I' 19 1 = nI w') (h2 : I' 19 2 = nI (min (ps.length + 1) 10)) (hc : Cl I' (21 + 16 * w') ns ct) : PcR I' w' (((ns, ct) :: ps).take 10) := by
  obtain ⟨p1, p2, p3, p4, p5⟩ := hp
  have hlen : (((ns, ct) :: ps).take 10).length = min (ps.length + 1) 10 := by rw [List.length_take, List.length_cons]; omega
  refine ⟨h1, by omega, by rw [hlen]; exact h2, by omega, fun i hi => ?_⟩
  rw [hlen] at hi
  have e : (((ns, ct) :: ps).take 10).getD i cp0 = ((ns, ct) :: ps).getD i cp0 := by
    rw [List.getD_eq_getElem?_getD, List.getD_eq_getElem?_getD, List.getElem?_take, if_pos (by omega)]
  rw [e]
  cases i with
  | zero =>
    have : slot w' 0 = 21 + 16 * w' := by unfold slot; omega
    rw [this]
    exact hc
  | succ i =>
    have e1 : slot w' (i + 1) = slot w i := by unfold slot; omega
    rw [e1]
    show Cl I' (slot w i) (ps.getD i cp0).1 (ps.getD i cp0).2
    have h5 := p5 i (by omega)
    have k1 : ∀ a, slot w i ≤ a → a < slot w i + 16 → I' a = I a := by
      intro a q1 q2
      exact hF ((w + 10 - i) % 10) (by omega) (by omega) a q1 q2
    obtain ⟨g1, g2, g3, g4, g5⟩ := h5
    refine ⟨by rw [k1 _ (by omega) (by omega)]; exact g1, g2, fun h hh => ⟨Rl_keep (g3 h hh).1 (k1 _ (by omega) (by omega)) (k1 _ (by omega) (by omega)), (g3 h hh).2⟩, Rl_keep g4 (k1 _ (by omega) (by omega)) (k1 _ (by omega) (by omega)), g5⟩
theorem c_rem_end {I0 : Nat → Nat → Int32} {w' : Nat} (hw : w' = (w + 1) % 10) (hp : PcR I0 w ps) (hl : Cl I0 3 ns ct) (hI : I = up2 I0 19 1 (nI w')) (Q : Mem → Prop) (h : ∀ I' w', PcR I' w' (((ns, ct) :: ps).take 10) → FrR 19 181 I0 I' → Q (mm L I' J)) :
    WV (d + 2) i_Camp_become [.ref (21 + 16 * w'), .ref 3] (mm L I J) (fun M1 => if mC M1 19 = 3 then (if mC M1 19 = 3 then Q (setI M1 19 2 (if (10 : Int32) < ((mI M1 19 2) + (1 : Int32)) then (10 : Int32) else ((mI M1 19 2) + (1 : Int32)))) else False) else False) := by
  have hw10 : w' < 10 := by omega
  have hF0 : FrR 19 20 I0 I := by rw [hI]; exact FrR_u (by omega) (by omega)
  refine c_cbec (Cw_p w' hw10) Cw_3 (by omega) (Cl_fr hF0 (by omega) hl) _ (fun I' g1 g2 => ?_)
  have e2 : I' 19 2 = nI ps.length := by
    rw [g2 19 (by omega), hI, up2_other _ _ _ (by omega)]
    exact hp.2.2.1
  rw [mm_C, mm_I, mm_sI, if_pos CL19, if_pos CL19, e2, nI_1]
  have h10 := hp.2.2.2.1
  have em : (if (10 : Int32) < nI (ps.length + 1) then (10 : Int32) else nI (ps.length + 1)) = nI (min (ps.length + 1) 10) := by
    by_cases q : 10 < ps.length + 1
    · have q1 : nI 10 < nI (ps.length + 1) := nI_lt q (by omega)
      have q1 : (10 : Int32) < nI (ps.length + 1) := q1
      rw [if_pos q1, Nat.min_eq_right (by omega)]
      rfl
    · have q1 : ¬ nI 10 < nI (ps.length + 1) := nI_nlt (by omega) (by omega)
      have q1 : ¬ (10 : Int32) < nI (ps.length + 1) := q1
      rw [if_neg q1, Nat.min_eq_left (by omega)]
  rw [em]
  refine h _ w' (PcR_push hp hw (fun i hi hne a q1 q2 => ?_) ?_ (up2_same _ _ _ _) ?_) (fun a q => ?_)
  · rw [up2_ne _ _ _ (by omega), g2 a (by omega), hF0 a (by omega)]
  · rw [up2_other _ _ _ (by omega), g2 19 (by omega), hI, up2_same]
  · exact Cl_fr (FrR_u (lo := 19) (hi := 20) (by omega) (by omega)) (by omega) g1
  · rw [up2_ne _ _ _ (by omega), g2 a (by omega), hF0 a (by omega)]
theorem c_rem (hp : PcR I w ps) (hl : Cl I 3 ns ct) (Q : Mem → Prop) (h : ∀ I' w', PcR I' w' (((ns, ct) :: ps).take 10) → FrR 19 181 I I' → Q (mm L I' J)) : WV (d + 3) i_Past_remember [.ref 19, .ref 3] (mm L I J) Q := by
  obtain ⟨p1, p2, p3, p4, p5⟩ := id hp
  rw [E_Past_remember, mm_C, mm_I, if_pos CL19, p1, nI_1]
  by_cases hw : w + 1 < 10
  · have q1 : nI (w + 1) < nI 10 := nI_lt hw (by omega)
    have q1 : nI (w + 1) < 10 := q1
    rw [if_pos q1]
    simp only [mm_sI, mm_C, mm_R, mm_L, mm_I, up2_same]
    rw [if_pos CL19, if_pos CL19, if_pos CL19, RR19, if_neg (by omega), if_pos CL19, CL20, LN20, if_pos (p_ok hw), p_rr hw, if_pos (Cw_p (w + 1) hw).2.1]
    exact c_rem_end (by omega) hp hl rfl Q h
  · have q1 : ¬ nI (w + 1) < nI 10 := nI_nlt (by omega) (by omega)
    have q1 : ¬ nI (w + 1) < 10 := q1
    rw [if_neg q1]
    simp only [mm_sI, mm_C, mm_R, mm_L, mm_I, up2_same]
    have k0 : (rdA 15 ∧ inb 0 10) ∧ RR 20 (Int32.toNatClampNeg 0) ≠ 999999 := p_ok (i := 0) (by omega)
    have k1 : RR 20 (Int32.toNatClampNeg 0) = 21 + 16 * 0 := p_rr (i := 0) (by omega)
    rw [if_pos CL19, if_pos CL19, RR19, if_neg (by omega), if_pos CL19, CL20, LN20, if_pos k0, k1, if_pos (Cw_p 0 (by omega)).2.1]
    exact c_rem_end (w' := 0) (by omega) hp hl (by rw [nI_0]) Q h
theorem c_forget (hp : PcR I w ps) (Q : Mem → Prop) (h : ∀ I', PcR I' w [] → FrR 19 181 I I' → Q (mm L I' J)) : WV d i_Past_forget [.ref 19] (mm L I J) Q := by
  rw [E_Past_forget, mm_C, if_pos CL19, mm_sI]
  refine h _ ⟨?_, hp.2.1, up2_same _ _ _ _, Nat.zero_le _, fun i hi => absurd hi (Nat.not_lt_zero i)⟩ (FrR_u (by omega) (by omega))
  rw [up2_other _ _ _ (by omega)]
  exact hp.1
theorem PcR_pop {I' : Nat → Nat → Int32} {w' : Nat} {p : Cp} (hp : PcR I w (p :: ps)) (hw : w' = (w + 9) % 10) (hF : ∀ a, 21 ≤ a → a < 181 → I' a = I a) (h1 : I' 19 1 = nI w') (h2 : I' 19 2 = nI ps.length) : PcR I' w' ps := by
  obtain ⟨p1, p2, p3, p4, p5⟩ := hp
  rw [List.length_cons] at p4
  refine ⟨h1, by omega, h2, by omega, fun i hi => ?_⟩
  have h5 := p5 (i + 1) (by rw [List.length_cons]; omega)
  have e1 : slot w (i + 1) = slot w' i := by unfold slot; omega
  rw [e1] at h5
  have h5 : Cl I (slot w' i) (ps.getD i cp0).1 (ps.getD i cp0).2 := h5
  have hb : slot w' i + 16 ≤ 181 := by unfold slot; omega
  have hb2 : 21 ≤ slot w' i := by unfold slot; omega
  have k1 : ∀ a, slot w' i ≤ a → a < slot w' i + 16 → I' a = I a := fun a q1 q2 => hF a (by omega) (by omega)
  obtain ⟨g1, g2, g3, g4, g5⟩ := h5
  exact ⟨by rw [k1 _ (by omega) (by omega)]; exact g1, g2, fun h hh => ⟨Rl_keep (g3 h hh).1 (k1 _ (by omega) (by omega)) (k1 _ (by omega) (by omega)), (g3 h hh).2⟩, Rl_keep g4 (k1 _ (by omega) (by omega)) (k1 _ (by omega) (by omega)), g5⟩
theorem c_takeBack {p : Cp} (hp : PcR I w (p :: ps)) (Q : Mem → Prop) (h : ∀ I' w', Cl I' 3 p.1 p.2 → PcR I' w' ps → FrR 3 181 I I' → Q (mm L I' J)) : WV (d + 3) i_Past_takeBack [.ref 19, .ref 3] (mm L I J) Q := by
  obtain ⟨p1, p2, p3, p4, p5⟩ := id hp
  rw [List.length_cons] at p3 p4
  have hpos : (0 : Int32) < nI (ps.length + 1) := nI_lt (show 0 < ps.length + 1 by omega) (by omega)
  have hs : slot w 0 = 21 + 16 * w := by unfold slot; omega
  have h0 := p5 0 (by rw [List.length_cons]; omega)
  rw [hs] at h0
  rw [E_Past_takeBack, mm_C, mm_I, mm_R, mm_L, if_pos CL19, p3, if_pos hpos, if_pos CL19, RR19, if_neg (by omega), if_pos CL19, CL20, LN20, p1, if_pos (p_ok p2), p_rr p2, if_pos CL3]
  refine c_cbec Cw_3 (Cw_p w p2) (by omega) h0 _ (fun I' g1 g2 => ?_)
  have e1 : I' 19 1 = nI w := by rw [g2 19 (by omega)]; exact p1
  have e2 : I' 19 2 = nI (ps.length + 1) := by rw [g2 19 (by omega)]; exact p3
  simp only [mm_sI, mm_C, mm_R, mm_L, mm_I, e1, CL19, ↓reduceIte]
  by_cases hw : 0 < w
  · have q : (0 : Int32) < nI w := nI_lt hw (by omega)
    rw [if_pos q, up2_other _ _ _ (by omega), e2, nI_pred, nI_m1 hw]
    refine h _ (w - 1) ?_ (PcR_pop hp (by omega) (fun a q1 q2 => ?_) ?_ (up2_same _ _ _ _)) (fun a q => ?_)
    · exact Cl_fr (FrR_u (lo := 19) (hi := 20) (by omega) (by omega)) (by omega) (Cl_fr (FrR_u (lo := 19) (hi := 20) (by omega) (by omega)) (by omega) g1)
    · rw [up2_ne _ _ _ (by omega), up2_ne _ _ _ (by omega), g2 a (by omega)]
    · rw [up2_other _ _ _ (by omega), up2_same]
    · rw [up2_ne _ _ _ (by omega), up2_ne _ _ _ (by omega), g2 a (by omega)]
  · have w0 : w = 0 := by omega
    have q : ¬ (0 : Int32) < nI w := by rw [w0]; decide
    rw [if_neg q, up2_other _ _ _ (by omega), e2, nI_pred]
    refine h _ 9 ?_ (PcR_pop hp (by omega) (fun a q1 q2 => ?_) ?_ (up2_same _ _ _ _)) (fun a q => ?_)
    · exact Cl_fr (FrR_u (lo := 19) (hi := 20) (by omega) (by omega)) (by omega) (Cl_fr (FrR_u (lo := 19) (hi := 20) (by omega) (by omega)) (by omega) g1)
    · rw [up2_ne _ _ _ (by omega), up2_ne _ _ _ (by omega), g2 a (by omega)]
    · rw [up2_other _ _ _ (by omega), up2_same]
      rfl
    · rw [up2_ne _ _ _ (by omega), up2_ne _ _ _ (by omega), g2 a (by omega)]
end PastC
