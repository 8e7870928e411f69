section Rd3
variable {d L : Nat} {J : Nat → Nat → Int64} {tx : List Nat} {tr : Int64}
theorem camp_fin {I0 I : Nat → Nat → Int32} {ns : List (List Nat)} (hJ : J 248 8 = tr) (hM : Ml I 255 0 ns []) (F : FrM I0 I) : MdR (up2 (up2 (up2 (up2 (up2 (cpN I 255 0 249 0 91) 248 0 (nI ns.length)) 248 7 0) 248 3 0) 252 0 0) 252 1 0) J ns [] [] (fun _ => none) [] tr ∧ FrR 248 262 I0 (up2 (up2 (up2 (up2 (up2 (cpN I 255 0 249 0 91) 248 0 (nI ns.length)) 248 7 0) 248 3 0) 252 0 0) 252 1 0) := by
  refine ⟨⟨?_, ?_, ⟨?_, Nat.zero_le _, fun i hi => absurd hi (Nat.not_lt_zero i)⟩, fun m hm => ⟨?_, fun p hp => by cases hp⟩, ⟨?_, Nat.zero_le _, fun k hk => absurd hk (Nat.not_lt_zero k)⟩, hJ⟩, fun a q => ?_⟩
  · rw [up2_ne _ _ _ (by omega), up2_ne _ _ _ (by omega), up2_other _ _ _ (by omega), up2_other _ _ _ (by omega), up2_same]
  · refine Ml_mv (a := 255) (i := 0) (fun t ht => ?_) hM
    rw [up2_ne _ _ _ (by omega), up2_ne _ _ _ (by omega), up2_ne _ _ _ (by omega), up2_ne _ _ _ (by omega), up2_ne _ _ _ (by omega), cpN_at _ ht]
  · rw [up2_ne _ _ _ (by omega), up2_ne _ _ _ (by omega), up2_same]
    rfl
  · rcases (show m = 0 ∨ m = 1 by omega) with e | e
    · rw [e, up2_other _ _ _ (by omega), up2_same]
      rfl
    · rw [e, up2_same]
      rfl
  · rw [up2_ne _ _ _ (by omega), up2_ne _ _ _ (by omega), up2_other _ _ _ (by omega), up2_same]
    rfl
  · rw [up2_ne _ _ _ (by omega), up2_ne _ _ _ (by omega), up2_ne _ _ _ (by omega), up2_ne _ _ _ (by omega), up2_ne _ _ _ (by omega), cpN_ne _ (by omega), F.1 a (by omega)]
theorem m_camp28 {I0 : Nat → Nat → Int32} {Fl : Option Nat} {Tl : List (List Nat)} (hJ : J 248 8 = tr) (Q : Option Value → Mem → Prop) (hF : ∀ p I', Fl = some p → p ≤ tx.length → FrM I0 I' → Q (some (.int (-10 - nI p))) (mm L I' J)) (hY : ∀ I', Fl = none → MdR I' J Tl [] [] (fun _ => none) [] tr → FrR 248 262 I0 I' → Q (some (.int (nI Tl.length))) (mm L I' J)) : ∀ (m n k t : Nat) (ns : List (List Nat)) (I : Nat → Nat → Int32), n ≤ m → k + n = tx.length → flt tx n k ns.length t false = Fl → tellF tx n k ns = Tl → TxM I tx → Ml I 255 0 ns [] → I 248 12 = nI k → FrM I0 I →
    Wn (d + 2) i_MD_camp 28 [(0, .ref 248), (1, .int (nI ns.length))] [] (mm L I J) Q := by
  have z1 : Int32.toNatClampNeg 1 = 1 := by decide
  have k0 : inb 0 2 := by decide
  have k1 : inb 1 2 := by decide
  have fin : ∀ (k t : Nat) (ns : List (List Nat)) (I : Nat → Nat → Int32), k = tx.length → flt tx 0 k ns.length t false = Fl → tellF tx 0 k ns = Tl → Ml I 255 0 ns [] → FrM I0 I → (if (-1 : Int32) < 0 then (if mC (mm L I J) 248 = 7 then (if (mR (mm L I J) 248 11) = 999999 then False else (if mC (mm L I J) 248 = 7 then (if (mR (mm L I J) 248 1) = 999999 then False else (WV (d + 1) i_MD_copies [.ref (mR (mm L I J) 248 11), .int (0 : Int32), .ref (mR (mm L I J) 248 1), .int (0 : Int32)] (mm L I J) (fun M3 => (if mC M3 248 = 7 then (if mC (setI M3 248 0 (nI ns.length)) 248 = 7 then (if mC (setI (setI M3 248 0 (nI ns.length)) 248 7 (0 : Int32)) 248 = 7 then (if mC (setI (setI (setI M3 248 0 (nI ns.length)) 248 7 (0 : Int32)) 248 3 (0 : Int32)) 248 = 7 then (if (mR (setI (setI (setI M3 248 0 (nI ns.length)) 248 7 (0 : Int32)) 248 3 (0 : Int32)) 248 5) = 999999 then False else (if mC (setI (setI (setI M3 248 0 (nI ns.length)) 248 7 (0 : Int32)) 248 3 (0 : Int32)) (mR (setI (setI (setI M3 248 0 (nI ns.length)) 248 7 (0 : Int32)) 248 3 (0 : Int32)) 248 5) = 12 ∧ inb (0 : Int32) (mL (setI (setI (setI M3 248 0 (nI ns.length)) 248 7 (0 : Int32)) 248 3 (0 : Int32)) (mR (setI (setI (setI M3 248 0 (nI ns.length)) 248 7 (0 : Int32)) 248 3 (0 : Int32)) 248 5)) then (if mC (setI (setI (setI (setI M3 248 0 (nI ns.length)) 248 7 (0 : Int32)) 248 3 (0 : Int32)) (mR (setI (setI (setI M3 248 0 (nI ns.length)) 248 7 (0 : Int32)) 248 3 (0 : Int32)) 248 5) (Int32.toNatClampNeg (0 : Int32)) (vp_nar .boolean (0 : Int32))) 248 = 7 then (if (mR (setI (setI (setI (setI M3 248 0 (nI ns.length)) 248 7 (0 : Int32)) 248 3 (0 : Int32)) (mR (setI (setI (setI M3 248 0 (nI ns.length)) 248 7 (0 : Int32)) 248 3 (0 : Int32)) 248 5) (Int32.toNatClampNeg (0 : Int32)) (vp_nar .boolean (0 : Int32))) 248 5) = 999999 then False else (if mC (setI (setI (setI (setI M3 248 0 (nI ns.length)) 248 7 (0 : Int32)) 248 3 (0 : Int32)) (mR (setI (setI (setI M3 248 0 (nI ns.length)) 248 7 (0 : Int32)) 248 3 (0 : Int32)) 248 5) (Int32.toNatClampNeg (0 : Int32)) (vp_nar .boolean (0 : Int32))) (mR (setI (setI (setI (setI M3 248 0 (nI ns.length)) 248 7 (0 : Int32)) 248 3 (0 : Int32)) (mR (setI (setI (setI M3 248 0 (nI ns.length)) 248 7 (0 : Int32)) 248 3 (0 : Int32)) 248 5) (Int32.toNatClampNeg (0 : Int32)) (vp_nar .boolean (0 : Int32))) 248 5) = 12 ∧ inb (1 : Int32) (mL (setI (setI (setI (setI M3 248 0 (nI ns.length)) 248 7 (0 : Int32)) 248 3 (0 : Int32)) (mR (setI (setI (setI M3 248 0 (nI ns.length)) 248 7 (0 : Int32)) 248 3 (0 : Int32)) 248 5) (Int32.toNatClampNeg (0 : Int32)) (vp_nar .boolean (0 : Int32))) (mR (setI (setI (setI (setI M3 248 0 (nI ns.length)) 248 7 (0 : Int32)) 248 3 (0 : Int32)) (mR (setI (setI (setI M3 248 0 (nI ns.length)) 248 7 (0 : Int32)) 248 3 (0 : Int32)) 248 5) (Int32.toNatClampNeg (0 : Int32)) (vp_nar .boolean (0 : Int32))) 248 5)) then Q (some (.int (nI ns.length))) (setI (setI (setI (setI (setI M3 248 0 (nI ns.length)) 248 7 (0 : Int32)) 248 3 (0 : Int32)) (mR (setI (setI (setI M3 248 0 (nI ns.length)) 248 7 (0 : Int32)) 248 3 (0 : Int32)) 248 5) (Int32.toNatClampNeg (0 : Int32)) (vp_nar .boolean (0 : Int32))) (mR (setI (setI (setI (setI M3 248 0 (nI ns.length)) 248 7 (0 : Int32)) 248 3 (0 : Int32)) (mR (setI (setI (setI M3 248 0 (nI ns.length)) 248 7 (0 : Int32)) 248 3 (0 : Int32)) 248 5) (Int32.toNatClampNeg (0 : Int32)) (vp_nar .boolean (0 : Int32))) 248 5) (Int32.toNatClampNeg (1 : Int32)) (vp_nar .boolean (0 : Int32))) else False)) else False) else False)) else False) else False) else False) else False)))) else False)) else False) else (if mC (mm L I J) 248 = 7 then (WI (d + 1) i_MD_takesHerder [.ref 248, .int (nI ns.length)] (mm L I J) (fun x5 M4 => (if x5 = 0 then (if mC M4 248 = 7 then Q (some (.int (((-10) : Int32) - (mI M4 248 12)))) M4 else False) else Wn (d + 2) i_MD_camp 28 [(0, .ref 248), (1, .int (nI ns.length + (1 : Int32)))] [] M4 Q))) else False)) := by
    intro k t ns I hk h1 h2 hM F
    rw [if_pos (by decide)]
    simp only [mm_C, mm_R, mm_L, mm_I, mm_sI, CL248, CL249, CL250, CL251, CL252, CL253, CL254, CL255, CL256, CL257, CL258, CL259, CL260, CL261, RR248_1, RR248_2, RR248_4, RR248_5, RR248_6, RR248_9, RR248_11, RR248_13, RR248_14, RR248_15, RR248_16, RR248_17, RR248_19, n249, n250, n251, n252, n253, n254, n255, n256, n257, n258, n259, n260, n261, LN249, LN250, LN251, LN252, LN253, LN254, LN255, LN256, LN257, LN258, LN259, LN260, LN261, ↓reduceIte]
    refine m_copC (i := 0) (j := 0) (by omega) CL255 CL249 (LN255 L) (LN249 L) (by omega) (by omega) (by omega) (by omega) ?_
    simp only [mm_C, mm_R, mm_L, mm_I, mm_sI, CL248, CL249, CL250, CL251, CL252, CL253, CL254, CL255, CL256, CL257, CL258, CL259, CL260, CL261, RR248_1, RR248_2, RR248_4, RR248_5, RR248_6, RR248_9, RR248_11, RR248_13, RR248_14, RR248_15, RR248_16, RR248_17, RR248_19, n249, n250, n251, n252, n253, n254, n255, n256, n257, n258, n259, n260, n261, LN249, LN250, LN251, LN252, LN253, LN254, LN255, LN256, LN257, LN258, LN259, LN260, LN261, ↓reduceIte, vpb0, z0, z1, true_and]
    rw [if_pos k0, if_pos k1]
    have h2 : ns = Tl := h2
    rw [flt, if_neg (by decide)] at h1
    rw [← h2] at hY
    obtain ⟨c1, c2⟩ := camp_fin hJ hM F
    exact hY _ h1.symm c1 c2
  intro m
  induction m with
  | zero =>
    intro n k t ns I hm hk h1 h2 hT hM h12 F
    have n0 : n = 0 := by omega
    subst n0
    rw [H_MD_camp_28, mm_C, if_pos CL248]
    refine m_ahead hk hT h12 _ (fun I1 g1 g2 => ?_)
    have el : aL tx (sk tx 0 k) = -1 := by
      show aL tx k = -1
      unfold aL
      rw [if_neg (by omega)]
    rw [el]
    exact fin k t ns I1 (by omega) h1 h2 (Ml_fr (g2.1 255 (by omega)) hM) (FrM_tr F (FrA_M g2))
  | succ m ih =>
    intro n k t ns I hm hk h1 h2 hT hM h12 F
    rw [H_MD_camp_28, mm_C, if_pos CL248]
    refine m_ahead hk hT h12 _ (fun I1 g1 g2 => ?_)
    have sl := sk_le (tx := tx) n k
    have F1 : FrM I0 I1 := FrM_tr F (FrA_M g2)
    have M1 := Ml_fr (g2.1 255 (by omega)) hM
    have T1 := TxM_M (FrA_M g2) hT
    rw [flt_sk] at h1
    rw [tell_sk] at h2
    have spn := sk_sp (tx := tx) n k
    generalize sk tx n k = s at g1 h1 h2 sl spn ⊢
    by_cases c : s < tx.length
    · obtain ⟨r, hr⟩ : ∃ r, k + n - s = r + 1 := ⟨k + n - s - 1, by omega⟩
      rw [hr] at h1 h2
      have n32 := spn (by omega)
      obtain ⟨e1, e2⟩ := T1.2.2 s c
      have el : aL tx s = nI (tx.getD s 0) := by unfold aL; rw [if_pos c]
      have s0 : sk tx (r + 1) s = s := sk_f n32
      rw [el, if_neg (nI_nn (by omega)), mm_C, if_pos CL248, E_MD_takesHerder, mm_C, if_pos CL248]
      refine m_ahead (k := s) (n := r + 1) (by omega) T1 g1 _ (fun I2 f1 f2 => ?_)
      rw [s0] at f1 ⊢
      rw [el]
      have F2 : FrM I0 I2 := FrM_tr F1 (FrA_M f2)
      have M2 := Ml_fr (f2.1 255 (by omega)) M1
      have T2 := TxM_M (FrA_M f2) T1
      by_cases q104 : tx.getD s 0 = 104
      · rw [if_pos (by rw [q104]; rfl)]
        have n6 := hM.2.2.2.1
        by_cases i6 : ns.length < 6
        · have j6 : ¬ nI ns.length = nI 6 := fun q => by have := (nI_eq (by omega) (by omega)).mp q; omega
          have j6 : ¬ nI ns.length = 6 := j6
          rw [if_neg j6]
          simp only [mm_C, mm_R, mm_L, mm_I, mm_sI, CL248, CL249, CL250, CL251, CL252, CL253, CL254, CL255, CL256, CL257, CL258, CL259, CL260, CL261, RR248_1, RR248_2, RR248_4, RR248_5, RR248_6, RR248_9, RR248_11, RR248_13, RR248_14, RR248_15, RR248_16, RR248_17, RR248_19, n249, n250, n251, n252, n253, n254, n255, n256, n257, n258, n259, n260, n261, LN249, LN250, LN251, LN252, LN253, LN254, LN255, LN256, LN257, LN258, LN259, LN260, LN261, ↓reduceIte, f1, nI_1]
          have F3 : FrM I2 (up2 (up2 I2 248 12 (nI (s + 1))) 248 10 0) := FrM_tr (FrA_M FrA_u) (FrM_K FrK_0)
          have h12' : up2 (up2 I2 248 12 (nI (s + 1))) 248 10 0 248 12 = nI (s + 1) := by rw [up2_other _ _ _ (by omega), up2_same]
          refine m_ahead (k := s + 1) (n := r) (by omega) (TxM_M F3 T2) h12' _ (fun I4 p1 p2 => ?_)
          rw [m_turnA hT]
          have sl2 := sk_le (tx := tx) r (s + 1)
          have m4 : I4 255 = I2 255 := by rw [p2.1 255 (by omega), up2_ne _ _ _ (by omega), up2_ne _ _ _ (by omega)]
          have F4 : FrM I0 I4 := FrM_tr F2 (FrM_tr F3 (FrA_M p2))
          have hs := flt_sk (tx := tx) r (s + 1) (ns.length + 1) 0 true
          have hts := tell_sk (tx := tx) r (s + 1) (ns ++ [[]])
          rw [flt, if_neg n32, if_neg (by decide), if_pos q104, if_pos i6, hs] at h1
          rw [tellF, if_pos q104, hts] at h2
          show Wn (d + 1) i_MD_takesHerder 42 [(0, .ref 248), (1, .int (nI ns.length)), (2, .int (nI 0)), (3, .int (aT tx (sk tx r (s + 1))))] [] (mm L I4 J) (QI (fun x5 M4 => (if x5 = 0 then (if mC M4 248 = 7 then Q (some (.int (((-10) : Int32) - (mI M4 248 12)))) M4 else False) else Wn (d + 2) i_MD_camp 28 [(0, .ref 248), (1, .int (nI (ns.length + 1)))] [] M4 Q)))
          refine m_th42 i6 _ (s + 1 + r - sk tx r (s + 1)) (s + 1 + r - sk tx r (s + 1)) (sk tx r (s + 1)) 0 [] I4 (Nat.le_refl _) (by omega) (fun q => sk_sp r (s + 1) (by omega)) (TxM_M (FrM_tr F3 (FrA_M p2)) T2) (Ml_fr m4 M2) (Cd_A Cd_0 p2) (Nat.le_refl _) (by omega) p1 (fun p I' r1 r2 r3 r4 => ?_) (fun n' k' t' l' I' r1 r2 r3 r4 r5 r6 r7 => ?_)
          · show (if (0 : Int32) = 0 then (if mC (mm L I' J) 248 = 7 then Q (some (.int (((-10) : Int32) - (mI (mm L I' J) 248 12)))) (mm L I' J) else False) else Wn (d + 2) i_MD_camp 28 [(0, .ref 248), (1, .int (nI (ns.length + 1)))] [] (mm L I' J) Q)
            rw [if_pos rfl, mm_C, if_pos CL248, mm_I, r3]
            exact hF p I' (by rw [← h1]; exact r1) r2 (FrM_tr F4 r4)
          · show (if (1 : Int32) = 0 then (if mC (mm L I' J) 248 = 7 then Q (some (.int (((-10) : Int32) - (mI (mm L I' J) 248 12)))) (mm L I' J) else False) else Wn (d + 2) i_MD_camp 28 [(0, .ref 248), (1, .int (nI (ns.length + 1)))] [] (mm L I' J) Q)
            rw [if_neg i10]
            have := ih n' k' t' (ns ++ [l']) I' (by omega) r4 (by rw [List.length_append, List.length_singleton, ← r1]; exact h1) (by rw [← r2]; exact h2) (TxM_M (FrM_tr (FrM_tr F3 (FrA_M p2)) r7) T2) r6 r5 (FrM_tr F4 r7)
            rw [List.length_append, List.length_singleton] at this
            exact this
        · have j6 : nI ns.length = nI 6 := by rw [show ns.length = 6 by omega]
          have j6 : nI ns.length = 6 := j6
          rw [if_pos j6, if_pos rfl, mm_C, if_pos CL248, mm_I, f1]
          refine hF s I2 ?_ (by omega) F2
          rw [← h1, flt, if_neg n32, if_neg (by decide), if_pos q104, if_neg i6]
      · have n104 : nI (tx.getD s 0) ≠ 104 := q_ne 104 e2 (by omega) q104
        rw [if_neg n104, if_pos rfl, mm_C, if_pos CL248, mm_I, f1]
        refine hF s I2 ?_ (by omega) F2
        rw [← h1, flt, if_neg n32, if_neg (by decide), if_neg q104]
    · have el : aL tx s = -1 := by unfold aL; rw [if_neg c]
      have r0 : k + n - s = 0 := by omega
      rw [r0] at h1 h2
      rw [el]
      exact fin s t ns I1 (by omega) h1 h2 M1 F1
theorem m_camp0 (Q : Option Value → Mem → Prop) : ∀ (n k : Nat) (I : Nat → Nat → Int32), k + n = 91 → (∀ j, j < k → I 255 j = 0) → (∀ I', (∀ j, j < 91 → I' 255 j = 0) → (∀ a, a ≠ 255 → I' a = I a) → Wn (d + 1) i_MD_camp 28 [(0, .ref 248), (1, .int 0)] [] (mm L (up2 I' 248 12 0) J) Q) → Wn (d + 1) i_MD_camp 2 [(0, .ref 248), (1, .int (nI k))] [] (mm L I J) Q := by
  intro n
  induction n with
  | zero =>
    intro k I hk hI hQ
    rw [show k = 91 by omega] at hI ⊢
    rw [H_MD_camp_2, if_neg (by decide), mm_C, if_pos CL248, mm_sI]
    exact hQ I hI (fun _ _ => rfl)
  | succ n ih =>
    intro k I hk hI hQ
    have e : nI k < nI 91 := nI_lt (by omega) (by omega)
    have e : nI k < 91 := e
    rw [H_MD_camp_2, if_pos e, nI_1]
    simp only [mm_C, mm_R, mm_L, mm_I, mm_sI, CL248, CL249, CL250, CL251, CL252, CL253, CL254, CL255, CL256, CL257, CL258, CL259, CL260, CL261, RR248_1, RR248_2, RR248_4, RR248_5, RR248_6, RR248_9, RR248_11, RR248_13, RR248_14, RR248_15, RR248_16, RR248_17, RR248_19, n249, n250, n251, n252, n253, n254, n255, n256, n257, n258, n259, n260, n261, LN249, LN250, LN251, LN252, LN253, LN254, LN255, LN256, LN257, LN258, LN259, LN260, LN261, ↓reduceIte]
    rw [if_pos ⟨trivial, inb_nI (by omega) (by omega)⟩, ix_nI (by omega)]
    refine ih (k + 1) _ (by omega) (fun j hj => ?_) (fun I' g1 g2 => hQ I' g1 (fun a ha => by rw [g2 a ha, up2_ne _ _ _ ha]))
    by_cases q : j = k
    · rw [q, up2_same]
    · rw [up2_other _ _ _ q]
      exact hI j (by omega)
end Rd3
section Rd4
variable {d L : Nat} {I : Nat → Nat → Int32} {J : Nat → Nat → Int64} {ns : List (List Nat)} {ct : List Nat} {ps : List Cp} {im : Nat → Option Cp} {tx : List Nat} {tr : Int64}
theorem m_camp (h : MdR I J ns ct ps im tx tr) (Q : Int32 → Mem → Prop) (hF : ∀ p I', flt tx tx.length 0 0 0 false = some p → p ≤ tx.length → MdR I' J ns ct ps im tx tr → FrR 248 262 I I' → Q (-10 - nI p) (mm L I' J)) (hY : ∀ I', flt tx tx.length 0 0 0 false = none → MdR I' J (tellF tx tx.length 0 []) [] [] (fun _ => none) [] tr → FrR 248 262 I I' → Q (nI (tellF tx tx.length 0 []).length) (mm L I' J)) : WI (d + 2) i_MD_camp [.ref 248] (mm L I J) Q := by
  rw [E_MD_camp]
  have := m_camp0 (d := d + 1) (L := L) (J := J) (QI Q) 91 0 I (by omega) (fun j hj => absurd hj (Nat.not_lt_zero j)) (fun I1 g1 g2 => by
    have F1 : FrM I (up2 I1 248 12 0) := ⟨fun a p => by rw [up2_ne _ _ _ (by omega)]; exact g2 a (by omega), fun k p => by rw [up2_other _ _ _ (by omega), g2 248 (by omega)]⟩
    have M1 : Ml (up2 I1 248 12 0) 255 0 [] [] := ⟨by rw [up2_ne _ _ _ (by omega)]; exact g1 0 (by omega), Nat.zero_le _, ⟨fun k hk => absurd hk (Nat.not_lt_zero k), fun x hx => by cases hx⟩, Nat.zero_le _, fun h hh => absurd hh (Nat.not_lt_zero h)⟩
    exact m_camp28 (d := d) (L := L) (I0 := I) (tr := tr) h.2.2.2.2.2 (QI Q) (fun p I' a b c => hF p I' a b (MdR_sc h c) (FrM_R c)) hY tx.length tx.length 0 0 [] _ (Nat.le_refl _) (by omega) rfl rfl (TxM_M F1 h.2.2.2.2.1) M1 (up2_same _ _ _ _) F1)
  rw [nI_0] at this
  exact this
end Rd4
