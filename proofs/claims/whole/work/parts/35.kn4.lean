theorem CL181 : CL 181 = 15 := by decide
theorem CL182 : CL 182 = 12 := by decide
theorem LN181 (L : Nat) : LN L 181 = 2 := rfl
theorem LN182 (L : Nat) : LN L 182 = 2 := rfl
theorem RR0_3 : RR 0 3 = 181 := by decide
theorem RR0_4 : RR 0 4 = 182 := by decide
theorem RR0_7 : RR 0 7 = 196 := by decide
theorem RR0_8 : RR 0 8 = 198 := by decide
theorem n196 : ¬ (196 : Nat) = 999999 := by decide
theorem n198 : ¬ (198 : Nat) = 999999 := by decide
theorem RR181 : ∀ i, i < 2 → RR 181 i = 216 + 16 * i := by decide
theorem i_rr {i : Nat} (hi : i < 2) : RR 181 (nI i).toNatClampNeg = 216 + 16 * i := by rw [ix_nI (by omega)]; exact RR181 i hi
theorem i_ok {i : Nat} (hi : i < 2) : (rdA 15 ∧ inb (nI i) 2) ∧ RR 181 (nI i).toNatClampNeg ≠ 999999 := by
  refine ⟨⟨by decide, inb_nI hi (by omega)⟩, ?_⟩
  rw [i_rr hi]
  omega
theorem Cw_i : ∀ i, i < 2 → Cw (216 + 16 * i) := by unfold Cw Rw; decide
theorem vpb1 : vp_nar .boolean (1 : Int32) = 1 := by decide
theorem vpb0 : vp_nar .boolean (0 : Int32) = 0 := by decide
section KN4
variable {d L : Nat} {I : Nat → Nat → Int32} {J : Nat → Nat → Int64} {ns : List (List Nat)} {ct : List Nat} {ps : List Cp} {im : Nat → Option Cp} {tx : List Nat} {tr : Int64}
theorem within_Y {a b x : Int32} (h1 : a ≤ x) (h2 : x ≤ b) : decide (a ≤ x ∧ x ≤ b) = true := decide_eq_true ⟨h1, h2⟩
theorem w01 {m : Nat} (hm : m < 2) : decide ((0 : Int32) ≤ nI m ∧ nI m ≤ 1) = true := by
  have h1 : nI m ≤ nI 1 := nI_le (by omega) (by omega)
  exact decide_eq_true ⟨nI_pos' (by omega), h1⟩
theorem k_keepN {x : Int32} (hx : x < 0 ∨ 1 < x) (M : Mem) (Q : Int32 → Mem → Prop) : WI (d + 1) i_KN_keep [.ref 0, .int x] M Q ↔ Q (-1) M := by
  rw [E_KN_keep, c_within, nw_12 hx, if_pos (by rfl)]
theorem k_backN {x : Int32} (hx : x < 0 ∨ 1 < x) (M : Mem) (Q : Int32 → Mem → Prop) : WI (d + 1) i_KN_back [.ref 0, .int x] M Q ↔ Q (-1) M := by
  rw [E_KN_back, c_within, nw_12 hx, if_pos (by rfl)]
theorem k_keepY (h : ClR I J ns ct ps im tx tr) {m : Nat} (hm : m < 2) (Q : Int32 → Mem → Prop) (hQ : ∀ I', ClR I' J ns ct ps (fun k => if k = m then some (ns, ct) else im k) tx tr → FrR 0 248 I I' → Q (nI (sumL ns ns.length 0)) (mm L I' J)) : WI (d + 3) i_KN_keep [.ref 0, .int (nI m)] (mm L I J) Q := by
  obtain ⟨a1, ⟨w, a2⟩, a3, a4, a5, a6⟩ := id h
  rw [E_KN_keep, c_within, w01 hm, if_neg (by decide)]
  simp only [mm_C, mm_R, mm_L, mm_I, mm_sI, CL0, CL1, CL3, CL5, CL19, RR0_0, RR0_1, RR0_2, RR3_1, n1, n3, n5, n19, ↓reduceIte, RR0_3, RR0_4, n181, n182, CL181, CL182, LN181, LN182]
  rw [if_pos (i_ok hm), i_rr hm, if_pos (Cw_i m hm).2.1]
  refine c_cbec (Cw_i m hm) Cw_3 (by omega) a1 _ (fun I' g1 g2 => ?_)
  have g3 : FrR 216 248 I I' := FrR_w g2 (by omega) (by omega)
  simp only [mm_C, mm_R, mm_L, mm_I, mm_sI, CL0, CL1, CL3, CL5, CL19, RR0_0, RR0_1, RR0_2, RR3_1, n1, n3, n5, n19, ↓reduceIte, RR0_3, RR0_4, n181, n182, CL181, CL182, LN181, LN182, vpb1]
  rw [if_pos ⟨trivial, inb_nI (by omega) (by omega)⟩, ix_nI (by omega)]
  have hF : FrR 182 183 I' (up2 I' 182 m 1) := FrR_u (by omega) (by omega)
  have hc : Cl (up2 I' 182 m 1) 3 ns ct := Cl_fr hF (by omega) (Cl_fr g3 (by omega) a1)
  rw [c_turns Cw_3 hc]
  refine hQ _ ⟨hc, ⟨w, PcR_fr hF (by omega) (PcR_fr g3 (by omega) a2)⟩, TxR_fr hF (by omega) (TxR_fr g3 (by omega) a3), SxR_fr hF (by omega) (SxR_fr g3 (by omega) a4), ?_, a6⟩ (FrR_tr (FrR_w g3 (by omega) (by omega)) (FrR_w hF (by omega) (by omega)))
  intro m' hm'
  show up2 I' 182 m 1 182 m' = bI (if m' = m then some (ns, ct) else im m').isSome ∧ ∀ p, (if m' = m then some (ns, ct) else im m') = some p → Cl (up2 I' 182 m 1) (216 + 16 * m') p.1 p.2
  by_cases e : m' = m
  · rw [if_pos e, e, up2_same]
    refine ⟨rfl, fun p hp => ?_⟩
    have hp := Option.some.inj hp
    rw [← hp]
    exact Cl_fr hF (by omega) g1
  · rw [if_neg e, up2_other _ _ _ e, g2 182 (by omega)]
    refine ⟨(a5 m' hm').1, fun p hp => ?_⟩
    exact Cl_fr hF (by omega) (Cl_fr g2 (by omega) ((a5 m' hm').2 p hp))
theorem k_backE (h : ClR I J ns ct ps im tx tr) {m : Nat} (hm : m < 2) (hn : im m = none) (Q : Int32 → Mem → Prop) : WI (d + 3) i_KN_back [.ref 0, .int (nI m)] (mm L I J) Q ↔ Q (-2) (mm L I J) := by
  have a5 := (h.2.2.2.2.1 m hm).1
  rw [hn] at a5
  have a5 : I 182 m = 0 := a5
  rw [E_KN_back, c_within, w01 hm, if_neg (by decide)]
  simp only [mm_C, mm_R, mm_L, mm_I, mm_sI, CL0, CL1, CL3, CL5, CL19, RR0_0, RR0_1, RR0_2, RR3_1, n1, n3, n5, n19, ↓reduceIte, RR0_3, RR0_4, n181, n182, CL181, CL182, LN181, LN182]
  rw [if_pos ⟨by decide, inb_nI hm (by omega)⟩, if_pos (by rw [ix_nI (by omega)]; exact a5)]
theorem k_backY (h : ClR I J ns ct ps im tx tr) {m : Nat} (hm : m < 2) {p : Cp} (hn : im m = some p) (Q : Int32 → Mem → Prop) (hQ : ∀ I', ClR I' J p.1 p.2 [] im tx tr → FrR 0 248 I I' → Q (nI (sumL p.1 p.1.length 0)) (mm L I' J)) : WI (d + 3) i_KN_back [.ref 0, .int (nI m)] (mm L I J) Q := by
  obtain ⟨a1, ⟨w, a2⟩, a3, a4, a5, a6⟩ := id h
  obtain ⟨b5, b6⟩ := a5 m hm
  rw [hn] at b5
  have b5 : I 182 m = 1 := b5
  have b6 := b6 p hn
  have b7 : ¬ I 182 (nI m).toNatClampNeg = 0 := by rw [ix_nI (by omega), b5]; decide
  rw [E_KN_back, c_within, w01 hm, if_neg (by decide)]
  simp only [mm_C, mm_R, mm_L, mm_I, mm_sI, CL0, CL1, CL3, CL5, CL19, RR0_0, RR0_1, RR0_2, RR3_1, n1, n3, n5, n19, ↓reduceIte, RR0_3, RR0_4, n181, n182, CL181, CL182, LN181, LN182]
  rw [if_pos ⟨by decide, inb_nI hm (by omega)⟩, if_neg b7, if_pos (i_ok hm), i_rr hm]
  refine c_cbec Cw_3 (Cw_i m hm) (by omega) b6 _ (fun I' g1 g2 => ?_)
  simp only [mm_C, mm_R, mm_L, mm_I, mm_sI, CL0, CL1, CL3, CL5, CL19, RR0_0, RR0_1, RR0_2, RR3_1, n1, n3, n5, n19, ↓reduceIte]
  refine c_forget (PcR_fr g2 (by omega) a2) _ (fun I'' f1 f2 => ?_)
  simp only [mm_C, mm_R, mm_L, mm_I, mm_sI, CL0, CL1, CL3, CL5, CL19, RR0_0, RR0_1, RR0_2, RR3_1, n1, n3, n5, n19, ↓reduceIte]
  have hc : Cl I'' 3 p.1 p.2 := Cl_fr f2 (by omega) g1
  rw [c_turns Cw_3 hc]
  exact hQ _ ⟨hc, ⟨w, f1⟩, TxR_fr f2 (by omega) (TxR_fr g2 (by omega) a3), SxR_fr f2 (by omega) (SxR_fr g2 (by omega) a4), ImR_fr f2 (by omega) (ImR_fr g2 (by omega) a5), a6⟩ (FrR_tr (FrR_w g2 (by omega) (by omega)) (FrR_w f2 (by omega) (by omega)))
theorem mx1 {c : Nat} (h : 0 < c) (hc : c < 100) : (if (1 : Int32) < nI c then nI c else 1) = nI c := by
  by_cases e : 1 < c
  · have e1 : nI 1 < nI c := nI_lt e (by omega)
    have e1 : (1 : Int32) < nI c := e1
    rw [if_pos e1]
  · have : c = 1 := by omega
    rw [this]
    decide
theorem unl_pos (h6 : ns.length ≤ 6) (h0 : 0 < ns.length) : 0 < cnt (unlP ns) ns.length 0 := by
  obtain ⟨n, hn⟩ : ∃ n, ns.length = n + 1 := ⟨ns.length - 1, by omega⟩
  rw [hn, cnt_t]
  · omega
  · unfold unlP
    have : ((1 : Int32) <<< (nI 0 &&& 31)) - 1 = 0 := by decide
    rw [this, Int32.and_zero]
    rfl
theorem k_shareN (h : ClR I J ns ct ps im tx tr) {x y : Int32} (hx : x < 0 ∨ nI ns.length ≤ x) (Q : Int32 → Mem → Prop) : WI (d + 2) i_KN_share [.ref 0, .int x, .int y] (mm L I J) Q ↔ Q (-1) (mm L I J) := by
  rw [E_KN_share]
  simp only [mm_C, mm_R, mm_L, mm_I, mm_sI, CL0, CL1, CL3, CL5, CL19, RR0_0, RR0_1, RR0_2, RR3_1, n1, n3, n5, n19, ↓reduceIte]
  rw [c_hasN Cw_3 h.1 hx, if_pos rfl]
theorem k_shareN2 (h : ClR I J ns ct ps im tx tr) {j : Nat} (hj : j < ns.length) {y : Int32} (hy : y < 1 ∨ 99 < y) (Q : Int32 → Mem → Prop) : WI (d + 2) i_KN_share [.ref 0, .int (nI j), .int y] (mm L I J) Q ↔ Q (-1) (mm L I J) := by
  rw [E_KN_share]
  simp only [mm_C, mm_R, mm_L, mm_I, mm_sI, CL0, CL1, CL3, CL5, CL19, RR0_0, RR0_1, RR0_2, RR3_1, n1, n3, n5, n19, ↓reduceIte]
  rw [c_hasY Cw_3 h.1 hj, if_neg i10, c_within, nw_12 hy, if_pos (by rfl)]
theorem k_shareY (h : ClR I J ns ct ps im tx tr) {j : Nat} (hj : j < ns.length) {y : Int32} (h1 : 1 ≤ y) (h2 : y ≤ 99) (Q : Int32 → Mem → Prop) : WI (d + 5) i_KN_share [.ref 0, .int (nI j), .int y] (mm L I J) Q ↔ Q (y / nI (cnt (unlP ns) ns.length 0) / nI (pop (likN ns j))) (mm L I J) := by
  have h6 := h.1.2.1
  obtain ⟨k1, k2, k3⟩ := lik_N h6 hj
  have u1 := unl_pos h6 (by omega)
  have u2 := cnt_le (unlP ns) ns.length 0
  obtain ⟨p1, p2⟩ := pop_F ⟨likN ns j, k2⟩
  have p1 : pop (likN ns j) ≤ 6 := p1
  have p3 : 0 < pop (likN ns j) := by
    rcases Nat.eq_zero_or_pos (pop (likN ns j)) with e | e
    · have := p2 e
      have : likN ns j = 0 := this
      omega
    · exact e
  rw [E_KN_share]
  simp only [mm_C, mm_R, mm_L, mm_I, mm_sI, CL0, CL1, CL3, CL5, CL19, RR0_0, RR0_1, RR0_2, RR3_1, n1, n3, n5, n19, ↓reduceIte]
  rw [c_hasY Cw_3 h.1 hj, if_neg i10, c_within, within_Y h1 h2, if_neg (by decide)]
  simp only [mm_C, mm_R, mm_L, mm_I, mm_sI, CL0, CL1, CL3, CL5, CL19, RR0_0, RR0_1, RR0_2, RR3_1, n1, n3, n5, n19, ↓reduceIte]
  rw [c_unl Cw_3 h.1]
  simp only [mm_C, mm_R, mm_L, mm_I, mm_sI, CL0, CL1, CL3, CL5, CL19, RR0_0, RR0_1, RR0_2, RR3_1, n1, n3, n5, n19, ↓reduceIte]
  rw [c_like Cw_3 h.1 hj, c_bc, k1, bcE_p k2, mx1 u1 (by omega), mx1 p3 (by omega), if_neg (nI_ne0 u1 (by omega)), if_neg (nI_ne0 p3 (by omega))]
theorem up2_up2 {α : Type} (f : Nat → Nat → α) (a k : Nat) (v w : α) : up2 (up2 f a k v) a k w = up2 f a k w := by
  funext b j
  unfold up2
  by_cases e : b = a ∧ j = k
  · rw [if_pos e, if_pos e]
  · rw [if_neg e, if_neg e, if_neg e]
theorem c_asH (h : Cl I 3 ns ct) {j : Nat} (hj : j < ns.length) (Q : Int32 → Mem → Prop) : WI (d + 1) i_KN_asHerder [.ref 0, .int (nI j)] (mm L I J) Q ↔ Q (nI (nmO ns j).length) (mm L I (up2 J 0 11 (J 0 11 + 1))) := by
  have h6 := h.2.1
  rw [E_KN_asHerder]
  simp only [mm_C, mm_R, mm_L, mm_I, mm_sI, CL0, CL1, CL3, CL5, CL19, RR0_0, RR0_1, RR0_2, RR3_1, n1, n3, n5, n19, ↓reduceIte, mm_J, mm_sJ]
  rw [c_name3 (by omega), mm_C, if_pos (w3 (by omega)).1, mm_I, (r3 h hj).1]
def las (l : List Nat) : Nat := if l.length = 0 then 0 else l.getD (l.length - 1) 0
theorem c_asC (h : Cl I 3 ns ct) {j : Nat} (hj : j < ns.length) (Q : Int32 → Mem → Prop) : WI (d + 2) i_KN_asChief [.ref 0, .int (nI j)] (mm L I J) Q ↔ Q (nI (nmO ns j).length + nI (las (nmO ns j))) (mm L I (up2 J 0 11 (J 0 11 + 10 + 1))) := by
  have h6 := h.2.1
  have lj := l3 h hj
  rw [E_KN_asChief]
  simp only [mm_C, mm_R, mm_L, mm_I, mm_sI, CL0, CL1, CL3, CL5, CL19, RR0_0, RR0_1, RR0_2, RR3_1, n1, n3, n5, n19, ↓reduceIte, mm_J, mm_sJ]
  rw [c_name3 (by omega), mm_C, if_pos CL0, c_asH h hj, mm_C, if_pos (w3 (by omega)).1, mm_I, (r3 h hj).1, up2_same, up2_up2, if_pos (w3 (by omega)).1]
  unfold las
  by_cases e : (nmO ns j).length = 0
  · rw [e, if_pos (by decide), if_pos rfl, nI_0]
  · rw [if_neg (nI_ne0 (by omega) (by omega)), if_neg e, c_last (w3 (by omega)) (r3 h hj) lj (by omega)]
theorem c_asL (h : Cl I 3 ns ct) {j : Nat} (hj : j < ns.length) (Q : Int32 → Mem → Prop) : WI (d + 4) i_KN_asLiar [.ref 0, .int (nI j)] (mm L I J) Q ↔ Q (nI (nmO ns j).length - nI (pop (likN ns j))) (mm L I (up2 J 0 11 (J 0 11 + 100 + 1))) := by
  have h6 := h.2.1
  obtain ⟨k1, k2, k3⟩ := lik_N h6 hj
  rw [E_KN_asLiar]
  simp only [mm_C, mm_R, mm_L, mm_I, mm_sI, CL0, CL1, CL3, CL5, CL19, RR0_0, RR0_1, RR0_2, RR3_1, n1, n3, n5, n19, ↓reduceIte, mm_J, mm_sJ]
  rw [c_asH h hj]
  simp only [mm_C, mm_R, mm_L, mm_I, mm_sI, CL0, CL1, CL3, CL5, CL19, RR0_0, RR0_1, RR0_2, RR3_1, n1, n3, n5, n19, ↓reduceIte]
  rw [c_like Cw_3 h hj, c_bc, k1, bcE_p k2, up2_same, up2_up2]
theorem c_asF (h : Cl I 3 ns ct) {j : Nat} (hj : j < ns.length) (Q : Int32 → Mem → Prop) : WI (d + 3) i_KN_asFist [.ref 0, .int (nI j)] (mm L I J) Q ↔ Q (2 * (nI (nmO ns j).length + nI (las (nmO ns j)))) (mm L I (up2 J 0 11 (J 0 11 + 1000 + 10 + 1))) := by
  rw [E_KN_asFist]
  simp only [mm_C, mm_R, mm_L, mm_I, mm_sI, CL0, CL1, CL3, CL5, CL19, RR0_0, RR0_1, RR0_2, RR3_1, n1, n3, n5, n19, ↓reduceIte, mm_J, mm_sJ]
  rw [c_asC h hj, up2_same, up2_up2]
theorem c_asT (h : Cl I 3 ns ct) {j : Nat} (hj : j < ns.length) (Q : Int32 → Mem → Prop) : WI (d + 5) i_KN_asThief [.ref 0, .int (nI j)] (mm L I J) Q ↔ Q (nI (nmO ns j).length - nI (pop (likN ns j)) + nI j) (mm L I (up2 J 0 11 (J 0 11 + 10000 + 100 + 1))) := by
  rw [E_KN_asThief]
  simp only [mm_C, mm_R, mm_L, mm_I, mm_sI, CL0, CL1, CL3, CL5, CL19, RR0_0, RR0_1, RR0_2, RR3_1, n1, n3, n5, n19, ↓reduceIte, mm_J, mm_sJ]
  rw [c_asL h hj, up2_same, up2_up2]
theorem c_asW (h : Cl I 3 ns ct) {j : Nat} (hj : j < ns.length) (Q : Int32 → Mem → Prop) : WI (d + 3) i_KN_asWidow [.ref 0, .int (nI j)] (mm L I J) Q ↔ Q (nI (nmO ns j).length + nI (roo (nmO ns j))) (mm L I (up2 J 0 11 (J 0 11 + 100000 + 1))) := by
  have h6 := h.2.1
  rw [E_KN_asWidow]
  simp only [mm_C, mm_R, mm_L, mm_I, mm_sI, CL0, CL1, CL3, CL5, CL19, RR0_0, RR0_1, RR0_2, RR3_1, n1, n3, n5, n19, ↓reduceIte, mm_J, mm_sJ]
  rw [c_asH h hj]
  simp only [mm_C, mm_R, mm_L, mm_I, mm_sI, CL0, CL1, CL3, CL5, CL19, RR0_0, RR0_1, RR0_2, RR3_1, n1, n3, n5, n19, ↓reduceIte]
  rw [c_name3 (by omega), mm_C, if_pos (w3 (by omega)).1, c_root (w3 (by omega)) (r3 h hj) (l3 h hj), up2_same, up2_up2]
theorem k_rateN (h : ClR I J ns ct ps im tx tr) {x y : Int32} (hx : x < 0 ∨ nI ns.length ≤ x) (Q : Int32 → Mem → Prop) : WI (d + 2) i_KN_rate [.ref 0, .int y, .int x] (mm L I J) Q ↔ Q (-1000000) (mm L I J) := by
  rw [E_KN_rate]
  simp only [mm_C, mm_R, mm_L, mm_I, mm_sI, CL0, CL1, CL3, CL5, CL19, RR0_0, RR0_1, RR0_2, RR3_1, n1, n3, n5, n19, ↓reduceIte]
  rw [c_hasN Cw_3 h.1 hx, if_pos rfl]
end KN4
