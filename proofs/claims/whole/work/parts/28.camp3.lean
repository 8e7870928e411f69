section CampE
variable {d c L : Nat} {I : Nat → Nat → Int32} {J : Nat → Nat → Int64} {ns : List (List Nat)} {ct : List Nat}
theorem c_emptyA {r cp : Nat} (hr : Rw r cp) (Q : Int32 → Mem → Prop) (h : ∀ I', Rl I' r [] → Fr1 r I I' → Q (I r 1) (mm L I' J)) : WI d i_Row_empty [.ref r] (mm L I J) Q := by
  rw [E_Row_empty, mm_C, mm_I, if_pos hr.1, if_pos hr.1, mm_sI]
  exact h _ Rl_0 Fr1_0
theorem c_cempty (hC : Cw c) (Q : Mem → Prop) (h : ∀ I', Cl I' c [] [] → FrR c (c + 16) I I' → Q (mm L I' J)) : WV (d + 1) i_Camp_empty [.ref c] (mm L I J) Q := by
  have h2 := hC.1
  rw [E_Camp_empty, mm_C, mm_sI, mm_C, mm_R, if_pos hC.2.1, if_pos hC.2.1, hC.2.2.2.2.2.1, if_neg (by omega), if_pos hC.2.2.2.2.2.2.1.1]
  refine c_emptyA hC.2.2.2.2.2.2.1 _ (fun I' h1 h3 => ?_)
  refine h I' ⟨?_, Nat.zero_le _, fun k hk => absurd hk (Nat.not_lt_zero k), h1, Nat.zero_le _⟩ (FrR_tr (FrR_u (by omega) (by omega)) (FrR_1 h3 (by omega) (by omega)))
  rw [h3 c (by omega) (by omega), up2_same]
  rfl
theorem nmO_app (ns : List (List Nat)) (x : List Nat) {k : Nat} (h : k < ns.length) : nmO (ns ++ [x]) k = nmO ns k := by
  unfold nmO
  rw [List.getD_eq_getElem?_getD, List.getD_eq_getElem?_getD, List.getElem?_append_left h]
theorem nmO_end (ns : List (List Nat)) (x : List Nat) : nmO (ns ++ [x]) ns.length = x := by
  unfold nmO
  rw [List.getD_eq_getElem?_getD, List.getElem?_append_right (Nat.le_refl _), Nat.sub_self]
  rfl
theorem nmO_set (ns : List (List Nat)) (x : List Nat) {h : Nat} (hh : h < ns.length) : nmO (ns.set h x) h = x := by
  unfold nmO
  rw [List.getD_eq_getElem?_getD, List.getElem?_set_self hh]
  rfl
theorem nmO_setn (ns : List (List Nat)) (x : List Nat) {h k : Nat} (hh : h ≠ k) : nmO (ns.set h x) k = nmO ns k := by
  unfold nmO
  rw [List.getD_eq_getElem?_getD, List.getD_eq_getElem?_getD, List.getElem?_set_ne hh]
theorem c_addH (hC : Cw c) (hl : Cl I c ns ct) (hn : ns.length < 6) (Q : Mem → Prop) (h : ∀ I', Cl I' c (ns ++ [[]]) ct → FrR c (c + 16) I I' → Q (mm L I' J)) : WV (d + 1) i_Camp_addHerder [.ref c] (mm L I J) Q := by
  have h2 := hC.1
  have hk := hC.2.2.2.2.2.2.2 ns.length hn
  have e6 : nI ns.length < nI 6 := nI_lt hn (by omega)
  have e6 : nI ns.length < 6 := e6
  rw [E_Camp_addHerder, mm_C, mm_I, mm_R, mm_L, if_pos hC.2.1, hl.1, if_pos e6, if_pos hC.2.1, hC.2.2.1, if_neg (by omega), if_pos hC.2.1, Cw_LN hC, hC.2.2.2.1, if_pos (cw_ok hC hn), cw_rr hC hn, if_pos hk.2.1]
  refine c_emptyA hk.2 _ (fun I' h1 h3 => ?_)
  have k1 : ∀ a, a ≠ c + 4 + 2 * ns.length → a ≠ c + 4 + 2 * ns.length + 1 → I' a = I a := h3
  rw [mm_C, mm_I, mm_sI, if_pos hC.2.1, if_pos hC.2.1, k1 c (by omega) (by omega), hl.1, nI_1]
  refine h _ ⟨?_, ?_, fun k hk2 => ?_, ?_, hl.2.2.2.2⟩ (FrR_tr (FrR_1 h3 (by omega) (by omega)) (FrR_u (by omega) (by omega)))
  · rw [up2_same, List.length_append]
    rfl
  · rw [List.length_append]
    exact hn
  · rw [List.length_append, List.length_singleton] at hk2
    by_cases e : k = ns.length
    · rw [e, nmO_end]
      exact ⟨Rl_keep h1 (up2_ne _ _ _ (by omega)) (up2_ne _ _ _ (by omega)), Nat.zero_le _⟩
    · rw [nmO_app _ _ (by omega)]
      have := hl.2.2.1 k (by omega)
      refine ⟨Rl_keep this.1 ?_ ?_, this.2⟩
      · rw [up2_ne _ _ _ (by omega), k1 _ (by omega) (by omega)]
      · rw [up2_ne _ _ _ (by omega), k1 _ (by omega) (by omega)]
  · refine Rl_keep hl.2.2.2.1 ?_ ?_
    · rw [up2_ne _ _ _ (by omega), k1 _ (by omega) (by omega)]
    · rw [up2_ne _ _ _ (by omega), k1 _ (by omega) (by omega)]
/-- a name is exchanged -/
theorem Cl_set {I' : Nat → Nat → Int32} {h : Nat} {x : List Nat} (hl : Cl I c ns ct) (hh : h < ns.length) (hF : Fr1 (c + 4 + 2 * h) I I') (hx : Rl I' (c + 4 + 2 * h) x) (hx2 : x.length ≤ 12) : Cl I' c (ns.set h x) ct := by
  have k1 : ∀ a, a ≠ c + 4 + 2 * h → a ≠ c + 4 + 2 * h + 1 → I' a = I a := hF
  have h6 := hl.2.1
  refine ⟨?_, ?_, fun k hk => ?_, ?_, hl.2.2.2.2⟩
  · rw [k1 c (by omega) (by omega), List.length_set]
    exact hl.1
  · rw [List.length_set]
    exact h6
  · rw [List.length_set] at hk
    by_cases e : h = k
    · rw [← e, nmO_set _ _ hh]
      exact ⟨hx, hx2⟩
    · rw [nmO_setn _ _ e]
      have := hl.2.2.1 k hk
      exact ⟨Rl_keep this.1 (k1 _ (by omega) (by omega)) (k1 _ (by omega) (by omega)), this.2⟩
  · exact Rl_keep hl.2.2.2.1 (k1 _ (by omega) (by omega)) (k1 _ (by omega) (by omega))
theorem Cl_con {I' : Nat → Nat → Int32} {x : List Nat} (hl : Cl I c ns ct) (hF : Fr1 (c + 2) I I') (hx : Rl I' (c + 2) x) (hx2 : x.length ≤ 12) : Cl I' c ns x := by
  have k1 : ∀ a, a ≠ c + 2 → a ≠ c + 2 + 1 → I' a = I a := hF
  refine ⟨?_, hl.2.1, fun k hk => ?_, hx, hx2⟩
  · rw [k1 c (by omega) (by omega)]
    exact hl.1
  · have := hl.2.2.1 k hk
    exact ⟨Rl_keep this.1 (k1 _ (by omega) (by omega)) (k1 _ (by omega) (by omega)), this.2⟩
theorem c_tieLast (hC : Cw c) (hl : Cl I c ns ct) {h : Nat} (hn : ns.length = h + 1) {t : Nat} (ht : t < 6) (hx : (tie (nmO ns h) t).length ≤ 12) (Q : Mem → Prop) (hq : ∀ I', Cl I' c (ns.set h (tie (nmO ns h) t)) ct → FrR c (c + 16) I I' → Q (mm L I' J)) : WV (d + 3) i_Camp_tieLastHerder [.ref c, .int (nI t)] (mm L I J) Q := by
  have h2 := hC.1
  have h6 := hl.2.1
  have hk := hC.2.2.2.2.2.2.2 h (by omega)
  have hp : (0 : Int32) < nI (h + 1) := nI_lt (show 0 < h + 1 by omega) (by omega)
  have hr := hl.2.2.1 h (by omega)
  rw [E_Camp_tieLastHerder, mm_C, mm_I, mm_R, mm_L, if_pos hC.2.1, hl.1, hn, if_pos hp, if_pos hC.2.1, hC.2.2.1, if_neg (by omega), if_pos hC.2.1, Cw_LN hC, hC.2.2.2.1, nI_pred, if_pos (cw_ok hC (show h < 6 by omega)), cw_rr hC (show h < 6 by omega), if_pos hk.2.1]
  exact c_tie hk.2 hr.1 hr.2 hx ht _ (fun I' g1 g2 => hq I' (Cl_set hl (by omega) g2 g1 hx) (FrR_1 g2 (by omega) (by omega)))
theorem c_cbec_loop {o : Nat} (hC : Cw c) (hO : Cw o) (hne : c + 16 ≤ o ∨ o + 16 ≤ c) (Q : Option Value → Mem → Prop) : ∀ (n k : Nat) (I : Nat → Nat → Int32), k + n = ns.length → Cl I o ns ct → I c 2 = nI ns.length → (∀ h, h < k → Rl I (c + 4 + 2 * h) (nmO ns h)) → (∀ I', Cl I' c ns ct → FrR c (c + 16) I I' → Q none (mm L I' J)) →
    Wn (d + 2) i_Camp_become 10 [(0, .ref c), (1, .ref o), (2, .int (nI k))] [] (mm L I J) Q := by
  intro n
  have h2 := hC.1
  have h2o := hO.1
  induction n with
  | zero =>
    intro k I hk hl hn hrs h
    have h6 := hl.2.1
    rw [H_Camp_become_10, mm_C, mm_I, mm_R, if_pos hC.2.1, hn, if_neg (nI_nlt (by omega) (by omega)), if_pos hC.2.1, hC.2.2.2.2.2.1, if_neg (by omega), if_pos hO.2.1, hO.2.2.2.2.2.1, if_neg (by omega), if_pos hC.2.2.2.2.2.2.1.1]
    refine c_become hC.2.2.2.2.2.2.1 hO.2.2.2.2.2.2.1 (by omega) hl.2.2.2.1 hl.2.2.2.2 hl.2.2.2.2 _ (fun I' g1 g2 => ?_)
    have k1 : ∀ a, a ≠ c + 2 → a ≠ c + 2 + 1 → I' a = I a := g2
    refine h I' ⟨?_, h6, fun h hh => ?_, g1, hl.2.2.2.2⟩ (FrR_1 g2 (by omega) (by omega))
    · rw [k1 c (by omega) (by omega)]
      exact hn
    · exact ⟨Rl_keep (hrs h (by omega)) (k1 _ (by omega) (by omega)) (k1 _ (by omega) (by omega)), (hl.2.2.1 h hh).2⟩
  | succ n ih =>
    intro k I hk hl hn hrs h
    have h6 := hl.2.1
    have hkc := hC.2.2.2.2.2.2.2 k (by omega)
    have hko := hO.2.2.2.2.2.2.2 k (by omega)
    have hr := hl.2.2.1 k (by omega)
    rw [H_Camp_become_10, mm_C, mm_I, mm_R, mm_L, if_pos hC.2.1, hn, if_pos (nI_lt (by omega) (by omega)), if_pos hC.2.1, hC.2.2.1, if_neg (by omega), Cw_LN hC, hC.2.2.2.1, if_pos (cw_ok hC (show k < 6 by omega)), cw_rr hC (show k < 6 by omega), if_pos hO.2.1, hO.2.2.1, if_neg (by omega), Cw_LN hO, hO.2.2.2.1, if_pos (cw_ok hO (show k < 6 by omega)), cw_rr hO (show k < 6 by omega), if_pos hkc.2.1]
    refine c_become hkc.2 hko.2 (by omega) hr.1 hr.2 hr.2 _ (fun I' g1 g2 => ?_)
    have k1 : ∀ a, a ≠ c + 4 + 2 * k → a ≠ c + 4 + 2 * k + 1 → I' a = I a := g2
    rw [nI_1]
    refine ih (k + 1) I' (by omega) (Cl_fr (FrR_1 (lo := c) (hi := c + 16) g2 (by omega) (by omega)) (by omega) hl) ?_ (fun j hj => ?_) (fun I'' f1 f2 => h I'' f1 (FrR_tr (FrR_1 g2 (by omega) (by omega)) f2))
    · rw [k1 c (by omega) (by omega)]
      exact hn
    · by_cases e : j = k
      · rw [e]
        exact g1
      · exact Rl_keep (hrs j (by omega)) (k1 _ (by omega) (by omega)) (k1 _ (by omega) (by omega))
theorem c_cbec {o : Nat} (hC : Cw c) (hO : Cw o) (hne : c + 16 ≤ o ∨ o + 16 ≤ c) (hl : Cl I o ns ct) (Q : Mem → Prop) (h : ∀ I', Cl I' c ns ct → FrR c (c + 16) I I' → Q (mm L I' J)) : WV (d + 2) i_Camp_become [.ref c, .ref o] (mm L I J) Q := by
  have h2 := hC.1
  rw [E_Camp_become, mm_C, mm_I, if_pos hO.2.1, if_pos hC.2.1, hl.1, mm_sI]
  have hF : FrR c (c + 16) I (up2 I c 2 (nI ns.length)) := FrR_u (by omega) (by omega)
  refine c_cbec_loop hC hO hne (QV Q) ns.length 0 _ (by omega) (Cl_fr hF (by omega) hl) (up2_same _ _ _ _) (fun j hj => absurd hj (Nat.not_lt_zero j)) (fun I' g1 g2 => h I' g1 (FrR_tr hF g2))
end CampE
