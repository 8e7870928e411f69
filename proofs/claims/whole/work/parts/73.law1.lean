/-! ===== class and model side by side ===== -/
def InvP (ns : List (List Nat)) (ps : List Cp) (im : Nat → Option Cp) : Prop := (∀ h, Tg (nmO ns h)) ∧ (∀ p ∈ ps, p.1.length = ns.length ∧ ∀ h, Tg (nmO p.1 h)) ∧ ∀ m p, im m = some p → p.1.length = ns.length ∧ ∀ h, Tg (nmO p.1 h)
def RLw (xs : Nat → Int32) (I : Nat → Nat → Int32) (J : Nat → Nat → Int64) (ns : List (List Nat)) (ct : List Nat) (ps : List Cp) (im : Nat → Option Cp) (tx : List Nat) (tr : Int64) : Prop := ClR I J ns ct ps im tx tr ∧ MdR I J ns ct ps im tx tr ∧ I 1000000 = xs ∧ InvP ns ps im
def RKw (L : Nat) (xs : Nat → Int32) (K : Mem → Prop) : Prop := ∀ I J ns ct ps im tx tr, RLw xs I J ns ct ps im tx tr → K (mm L I J)
def PQw (L : Nat) (xs : Nat → Int32) (i : Nat) (As : List Value) (K : Mem → Prop) : Int32 → Mem → Prop := fun a M1 => ∃ I1 J1, M1 = mm L I1 J1 ∧ I1 1000000 = xs ∧ WI 11 i As (mm L I1 J1) (fun b M3 => a = b ∧ K M3)
def PLw (L : Nat) (xs : Nat → Int32) (i : Nat) (As : List Value) (K : Mem → Prop) : Int64 → Mem → Prop := fun a M1 => ∃ I1 J1, M1 = mm L I1 J1 ∧ I1 1000000 = xs ∧ WL 11 i As (mm L I1 J1) (fun b M3 => a = b ∧ K M3)
section SS
variable {L : Nat} {xs : Nat → Int32} {I : Nat → Nat → Int32} {J : Nat → Nat → Int64} {ns : List (List Nat)} {ct : List Nat} {ps : List Cp} {im : Nat → Option Cp} {tx : List Nat} {tr : Int64} {K : Mem → Prop}
theorem MdR_far {I' : Nat → Nat → Int32} (h : MdR I J ns ct ps im tx tr) (F : FrR 0 248 I I') : MdR I' J ns ct ps im tx tr := by
  obtain ⟨a1, a2, a3, a4, a5, a6⟩ := h
  have e8 := F 248 (by omega)
  exact ⟨by rw [e8]; exact a1, Ml_fr (F 249 (by omega)) a2, PmR_fr (by rw [e8]) (F 250 (by omega)) a3, ImM_fr (F 252 (by omega)) (F 251 (by omega)) a4, TxM_fr (by rw [e8]) (F 253 (by omega)) a5, a6⟩
theorem ClR_far {I' : Nat → Nat → Int32} (h : ClR I J ns ct ps im tx tr) (F : FrR 248 262 I I') : ClR I' J ns ct ps im tx tr := by
  obtain ⟨a1, ⟨w, a2⟩, a3, a4, a5, a6⟩ := h
  exact ⟨Cl_fr F (by omega) a1, ⟨w, PcR_fr F (by omega) a2⟩, TxR_fr F (by omega) a3, SxR_fr F (by omega) a4, ImR_fr F (by omega) a5, a6⟩
/-- both have done a deed -/
theorem RLmk {I1 I2 : Nat → Nat → Int32} {J1 : Nat → Nat → Int64} {ns' : List (List Nat)} {ct' : List Nat} {ps' : List Cp} {im' : Nat → Option Cp} {tx' : List Nat} {tr' : Int64} (R : RLw xs I J ns ct ps im tx tr) (g1 : ClR I1 J1 ns' ct' ps' im' tx' tr') (g2 : FrR 0 248 I I1) (f1 : MdR I2 J1 ns' ct' ps' im' tx' tr') (f2 : FrR 248 262 I1 I2) (hi : InvP ns' ps' im') : RLw xs I2 J1 ns' ct' ps' im' tx' tr' :=
  ⟨ClR_far g1 f2, f1, by rw [f2 1000000 (by omega), g2 1000000 (by omega)]; exact R.2.2.1, hi⟩
theorem xs1 {I1 : Nat → Nat → Int32} (R : RLw xs I J ns ct ps im tx tr) (g2 : FrR 0 248 I I1) : I1 1000000 = xs := by rw [g2 1000000 (by omega)]; exact R.2.2.1
theorem Tg_set (h : ∀ k, Tg (nmO ns k)) {j : Nat} {x : List Nat} (hx : Tg x) : ∀ k, Tg (nmO (ns.set j x) k) := by
  intro k
  by_cases e : j = k
  · by_cases c : j < ns.length
    · rw [← e, nmO_set _ _ c]; exact hx
    · rw [List.set_eq_of_length_le (by omega)]; exact h k
  · rw [nmO_setn _ _ e]; exact h k
theorem inv_rem {ns' : List (List Nat)} (h : InvP ns ps im) (hl : ns'.length = ns.length) (hT : ∀ k, Tg (nmO ns' k)) : InvP ns' (((ns, ct) :: ps).take 10) im := by
  obtain ⟨a, b, c⟩ := h
  refine ⟨hT, fun p hp => ?_, fun m p hp => ?_⟩
  · rw [hl]
    rcases List.mem_cons.mp (List.mem_of_mem_take hp) with q | q
    · rw [q]; exact ⟨rfl, a⟩
    · exact b p q
  · rw [hl]
    exact c m p hp
theorem le_lt {b : Nat} (hb : b < 2 ^ 30) {x : Int32} (h : nI (b + 1) ≤ x) : nI b < x := by
  rw [Int32.le_iff_toInt_le, nI_toInt (by omega)] at h
  rw [Int32.lt_iff_toInt_lt, nI_toInt (by omega)]
  omega
theorem lt_1 {x : Int32} (h : x < 0) : x < 1 := by
  rw [Int32.lt_iff_toInt_lt] at h ⊢
  have e0 : Int32.toInt 0 = 0 := by decide
  have e1 : Int32.toInt 1 = 1 := by decide
  rw [e0] at h
  rw [e1]
  omega
theorem s_type (R : RLw xs I J ns ct ps im tx tr) (x : Int32) (hK : RKw L xs K) : WI 11 i_KN_type [.ref 0, .int x] (mm L I J) (PQw L xs i_MD_type [.ref 248, .int x] K) := by
  obtain ⟨hC, hM, hX, hI⟩ := id R
  have bad : x < 0 ∨ 255 < x → WI 11 i_KN_type [.ref 0, .int x] (mm L I J) (PQw L xs i_MD_type [.ref 248, .int x] K) := fun h => (k_typeN x h _ _).mpr ⟨I, J, rfl, hX, (m_typeN x h _ _).mpr ⟨rfl, hK _ _ _ _ _ _ _ _ R⟩⟩
  rcases pk_ix x (show 256 < 2 ^ 31 by omega) with c | c | ⟨q, q1, q2⟩
  · exact bad (Or.inl c)
  · exact bad (Or.inr (le_lt (b := 255) (by omega) c))
  · subst q2
    have l := hC.2.2.1.2.1
    by_cases e : tx.length = 200
    · exact (k_typeF hC q1 e _).mpr ⟨I, J, rfl, hX, (m_typeF hM q1 e _).mpr ⟨rfl, hK _ _ _ _ _ _ _ _ R⟩⟩
    · exact k_typeY hC q1 (by omega) _ (fun I1 g1 g2 => ⟨I1, J, rfl, xs1 R g2, m_typeY (MdR_far hM g2) q1 (by omega) _ (fun I2 f1 f2 => ⟨rfl, hK _ _ _ _ _ _ _ _ (RLmk R g1 g2 f1 f2 hI)⟩)⟩)
theorem MdR_tx0 (h : MdR I J ns ct ps im tx tr) : MdR (up2 I 248 7 0) J ns ct ps im [] tr := by
  obtain ⟨a1, a2, a3, a4, a5, a6⟩ := h
  exact ⟨by rw [up2_other _ _ _ (by omega)]; exact a1, Ml_fr (up2_ne _ _ _ (by omega)) a2, PmR_fr (up2_other _ _ _ (by omega)) (up2_ne _ _ _ (by omega)) a3, ImM_fr (up2_ne _ _ _ (by omega)) (up2_ne _ _ _ (by omega)) a4, ⟨by rw [up2_same]; rfl, Nat.zero_le _, fun k hk => absurd hk (Nat.not_lt_zero k)⟩, a6⟩
theorem s_clear (R : RLw xs I J ns ct ps im tx tr) (hK : RKw L xs K) : WI 11 i_KN_clear [.ref 0] (mm L I J) (PQw L xs i_MD_clear [.ref 248] K) := by
  obtain ⟨hC, hM, hX, hI⟩ := id R
  exact k_clear hC _ (fun I1 g1 g2 => ⟨I1, J, rfl, xs1 R g2, (m_clear (MdR_far hM g2) _).mpr ⟨rfl, hK _ _ _ _ _ _ _ _ (RLmk R g1 g2 (MdR_tx0 (MdR_far hM g2)) (FrR_u (by omega) (by omega)) hI)⟩⟩)
theorem flt_le : ∀ n k i t o p, flt tx n k i t o = some p → p ≤ k + n := by
  intro n
  induction n with
  | zero =>
    intro k i t o p h
    rw [flt] at h
    split at h
    · have := Option.some.inj h; omega
    · cases h
  | succ n ih =>
    intro k i t o p h
    rw [flt] at h
    split at h
    · have := ih _ _ _ _ _ h; omega
    · split at h
      · split at h
        · have := ih _ _ _ _ _ h; omega
        · split at h
          · split at h
            · have := ih _ _ _ _ _ h; omega
            · have := Option.some.inj h; omega
          · have := Option.some.inj h; omega
      · split at h
        · split at h
          · have := ih _ _ _ _ _ h; omega
          · have := Option.some.inj h; omega
        · have := Option.some.inj h; omega
theorem nmO_nil (h : Nat) : nmO [] h = [] := rfl
theorem s_camp (R : RLw xs I J ns ct ps im tx tr) (hK : RKw L xs K) : WI 11 i_KN_camp [.ref 0] (mm L I J) (PQw L xs i_MD_camp [.ref 248] K) := by
  obtain ⟨hC, hM, hX, hI⟩ := id R
  have l := hC.2.2.1.2.1
  cases e : flt tx tx.length 0 0 0 false with
  | some p =>
    have pl := flt_le _ _ _ _ _ _ e
    refine (k_campF hC e (by omega) _).mpr ⟨I, J, rfl, hX, m_camp hM _ (fun p' I2 e' _ f1 f2 => ?_) (fun I2 e' _ _ => ?_)⟩
    · rw [e] at e'
      have e' := Option.some.inj e'
      rw [← e']
      exact ⟨rfl, hK _ _ _ _ _ _ _ _ (RLmk R hC (FrR_rf _ _ _) f1 f2 hI)⟩
    · rw [e] at e'; cases e'
  | none =>
    refine k_campY hC e _ (fun I1 g1 g2 => ⟨I1, J, rfl, xs1 R g2, m_camp (MdR_far hM g2) _ (fun p' I2 e' _ f1 f2 => ?_) (fun I2 e' f1 f2 => ?_)⟩)
    · rw [e] at e'; cases e'
    · exact ⟨rfl, hK _ _ _ _ _ _ _ _ (RLmk R g1 g2 f1 f2 ⟨tellF_tg _ _ _ (fun h => by rw [nmO_nil]; exact Tg_nil), (fun p hp => by cases hp), (fun m p hp => by cases hp)⟩)⟩
theorem s_name (R : RLw xs I J ns ct ps im tx tr) (x y : Int32) (hK : RKw L xs K) : WI 11 i_KN_name [.ref 0, .int x, .int y] (mm L I J) (PQw L xs i_MD_name [.ref 248, .int x, .int y] K) := by
  obtain ⟨hC, hM, hX, hI⟩ := id R
  have n6 := hC.1.2.1
  have bad : x < 0 ∨ nI ns.length ≤ x → WI 11 i_KN_name [.ref 0, .int x, .int y] (mm L I J) (PQw L xs i_MD_name [.ref 248, .int x, .int y] K) := fun h => (k_nameN hC h y _).mpr ⟨I, J, rfl, hX, (m_nameN hM h y _).mpr ⟨rfl, hK _ _ _ _ _ _ _ _ R⟩⟩
  rcases pk_ix x (show ns.length < 2 ^ 31 by omega) with c | c | ⟨j, j1, j2⟩
  · exact bad (Or.inl c)
  · exact bad (Or.inr c)
  · subst j2
    exact (k_nameY hC j1 y _).mpr ⟨I, J, rfl, hX, (m_nameY hM j1 y _).mpr ⟨rfl, hK _ _ _ _ _ _ _ _ R⟩⟩
theorem s_contract (R : RLw xs I J ns ct ps im tx tr) (x : Int32) (hK : RKw L xs K) : WI 11 i_KN_contract [.ref 0, .int x] (mm L I J) (PQw L xs i_MD_contract [.ref 248, .int x] K) := by
  obtain ⟨hC, hM, hX, hI⟩ := id R
  exact (k_contract hC x _).mpr ⟨I, J, rfl, hX, (m_contract hM x _).mpr ⟨rfl, hK _ _ _ _ _ _ _ _ R⟩⟩
theorem s_now (R : RLw xs I J ns ct ps im tx tr) (x : Int32) (hK : RKw L xs K) : WI 11 i_KN_now [.ref 0, .int x] (mm L I J) (PQw L xs i_MD_now [.ref 248, .int x] K) := by
  obtain ⟨hC, hM, hX, hI⟩ := id R
  exact (k_now hC x _).mpr ⟨I, J, rfl, hX, (m_now hM x _).mpr ⟨rfl, hK _ _ _ _ _ _ _ _ R⟩⟩
theorem s_ties (R : RLw xs I J ns ct ps im tx tr) (x y : Int32) (hK : RKw L xs K) : WI 11 i_KN_ties [.ref 0, .int x, .int y] (mm L I J) (PQw L xs i_MD_ties [.ref 248, .int x, .int y] K) := by
  obtain ⟨hC, hM, hX, hI⟩ := id R
  have n6 := hC.1.2.1
  have bad : x < 0 ∨ nI ns.length ≤ x → WI 11 i_KN_ties [.ref 0, .int x, .int y] (mm L I J) (PQw L xs i_MD_ties [.ref 248, .int x, .int y] K) := fun h => (k_tiesN hC h _).mpr ⟨I, J, rfl, hX, (m_tiesN hM h _).mpr ⟨rfl, hK _ _ _ _ _ _ _ _ R⟩⟩
  rcases pk_ix x (show ns.length < 2 ^ 31 by omega) with c | c | ⟨j, j1, j2⟩
  · exact bad (Or.inl c)
  · exact bad (Or.inr c)
  · subst j2
    have bad2 : y < 0 ∨ 6 ≤ y → WI 11 i_KN_ties [.ref 0, .int (nI j), .int y] (mm L I J) (PQw L xs i_MD_ties [.ref 248, .int (nI j), .int y] K) := fun h => (k_tiesN2 hC j1 h _).mpr ⟨I, J, rfl, hX, (m_tiesN2 hM j1 h _).mpr ⟨rfl, hK _ _ _ _ _ _ _ _ R⟩⟩
    rcases pk_ix y (show 6 < 2 ^ 31 by omega) with c | c | ⟨t, t1, t2⟩
    · exact bad2 (Or.inl c)
    · exact bad2 (Or.inr c)
    · subst t2
      by_cases f : fitB (nmO ns j) t
      · refine k_tiesY hC j1 t1 f _ (fun I1 g1 g2 => ⟨I1, J, rfl, xs1 R g2, m_ties (MdR_far hM g2) j1 (hI.1 j) t1 _ (fun q => absurd f q) (fun _ I2 f1 f2 => ⟨rfl, hK _ _ _ _ _ _ _ _ (RLmk R g1 g2 f1 f2 (inv_rem hI (List.length_set ..) (Tg_set hI.1 (Tg_tie (hI.1 j) t))))⟩)⟩)
      · exact (k_tiesF hC j1 t1 f _).mpr ⟨I, J, rfl, hX, m_ties hM j1 (hI.1 j) t1 _ (fun _ I2 f1 f2 => ⟨rfl, hK _ _ _ _ _ _ _ _ (RLmk R hC (FrR_rf _ _ _) f1 f2 hI)⟩) (fun q => absurd q f)⟩
theorem s_loosens (R : RLw xs I J ns ct ps im tx tr) (x : Int32) (hK : RKw L xs K) : WI 11 i_KN_loosens [.ref 0, .int x] (mm L I J) (PQw L xs i_MD_loosens [.ref 248, .int x] K) := by
  obtain ⟨hC, hM, hX, hI⟩ := id R
  have n6 := hC.1.2.1
  have bad : x < 0 ∨ nI ns.length ≤ x → WI 11 i_KN_loosens [.ref 0, .int x] (mm L I J) (PQw L xs i_MD_loosens [.ref 248, .int x] K) := fun h => (k_looN hC h _).mpr ⟨I, J, rfl, hX, (m_looN hM h _).mpr ⟨rfl, hK _ _ _ _ _ _ _ _ R⟩⟩
  rcases pk_ix x (show ns.length < 2 ^ 31 by omega) with c | c | ⟨j, j1, j2⟩
  · exact bad (Or.inl c)
  · exact bad (Or.inr c)
  · subst j2
    by_cases z : (nmO ns j).length = 0
    · exact (k_looE hC j1 z _).mpr ⟨I, J, rfl, hX, (m_looE hM j1 z _).mpr ⟨rfl, hK _ _ _ _ _ _ _ _ R⟩⟩
    · exact k_looY hC j1 (by omega) _ (fun I1 g1 g2 => ⟨I1, J, rfl, xs1 R g2, m_looY (MdR_far hM g2) j1 (by omega) _ (fun I2 f1 f2 => ⟨rfl, hK _ _ _ _ _ _ _ _ (RLmk R g1 g2 f1 f2 (inv_rem hI (List.length_set ..) (Tg_set hI.1 (Tg_drop (hI.1 j)))))⟩)⟩)
theorem joi_tg (l m : List Nat) : Tg (joi l m) := Tg_tieAll _ _ (Tg_tieAll _ _ Tg_nil)
theorem s_bends (R : RLw xs I J ns ct ps im tx tr) (x y : Int32) (hK : RKw L xs K) : WI 11 i_KN_bends [.ref 0, .int x, .int y] (mm L I J) (PQw L xs i_MD_bends [.ref 248, .int x, .int y] K) := by
  obtain ⟨hC, hM, hX, hI⟩ := id R
  have n6 := hC.1.2.1
  have bad : x < 0 ∨ nI ns.length ≤ x → WI 11 i_KN_bends [.ref 0, .int x, .int y] (mm L I J) (PQw L xs i_MD_bends [.ref 248, .int x, .int y] K) := fun h => (k_bendN hC h _).mpr ⟨I, J, rfl, hX, (m_bendN hM h _).mpr ⟨rfl, hK _ _ _ _ _ _ _ _ R⟩⟩
  rcases pk_ix x (show ns.length < 2 ^ 31 by omega) with c | c | ⟨a, a1, a2⟩
  · exact bad (Or.inl c)
  · exact bad (Or.inr c)
  · subst a2
    have bad2 : y < 0 ∨ nI ns.length ≤ y → WI 11 i_KN_bends [.ref 0, .int (nI a), .int y] (mm L I J) (PQw L xs i_MD_bends [.ref 248, .int (nI a), .int y] K) := fun h => (k_bendN2 hC a1 h _).mpr ⟨I, J, rfl, hX, (m_bendN2 hM a1 h _).mpr ⟨rfl, hK _ _ _ _ _ _ _ _ R⟩⟩
    rcases pk_ix y (show ns.length < 2 ^ 31 by omega) with c | c | ⟨b, b1, b2⟩
    · exact bad2 (Or.inl c)
    · exact bad2 (Or.inr c)
    · subst b2
      by_cases e : a = b
      · subst e
        exact (k_bendN3 hC a1 _).mpr ⟨I, J, rfl, hX, (m_bendN3 hM a1 _).mpr ⟨rfl, hK _ _ _ _ _ _ _ _ R⟩⟩
      · refine k_bend hC a1 b1 e _ (fun q I1 g1 g2 => ⟨I1, J, rfl, xs1 R g2, m_bend (MdR_far hM g2) a1 b1 e (hI.1 a) (hI.1 b) _ (fun _ I2 f1 f2 => ⟨rfl, hK _ _ _ _ _ _ _ _ (RLmk R g1 g2 f1 f2 hI)⟩) (fun q1 q2 => absurd ⟨q1, q2⟩ q)⟩) (fun q1 q2 I1 g1 g2 => ⟨I1, J, rfl, xs1 R g2, m_bend (MdR_far hM g2) a1 b1 e (hI.1 a) (hI.1 b) _ (fun q => absurd ⟨q1, q2⟩ q) (fun _ _ I2 f1 f2 => ⟨rfl, hK _ _ _ _ _ _ _ _ (RLmk R g1 g2 f1 f2 (inv_rem hI ?_ (Tg_set (Tg_set hI.1 (joi_tg _ _)) (joi_tg _ _))))⟩)⟩)
        rw [List.length_set, List.length_set]
theorem s_unties (R : RLw xs I J ns ct ps im tx tr) (x : Int32) (hK : RKw L xs K) : WI 11 i_KN_unties [.ref 0, .int x] (mm L I J) (PQw L xs i_MD_unties [.ref 248, .int x] K) := by
  obtain ⟨hC, hM, hX, hI⟩ := id R
  have n6 := hC.1.2.1
  have bad : x < 0 ∨ nI ns.length ≤ x → WI 11 i_KN_unties [.ref 0, .int x] (mm L I J) (PQw L xs i_MD_unties [.ref 248, .int x] K) := fun h => (k_untN hC h _).mpr ⟨I, J, rfl, hX, (m_untN hM h _).mpr ⟨rfl, hK _ _ _ _ _ _ _ _ R⟩⟩
  rcases pk_ix x (show ns.length < 2 ^ 31 by omega) with c | c | ⟨j, j1, j2⟩
  · exact bad (Or.inl c)
  · exact bad (Or.inr c)
  · subst j2
    exact k_untY hC j1 _ (fun I1 g1 g2 => ⟨I1, J, rfl, xs1 R g2, m_untY (MdR_far hM g2) j1 _ (fun I2 f1 f2 => ⟨rfl, hK _ _ _ _ _ _ _ _ (RLmk R g1 g2 f1 f2 (inv_rem hI (List.length_set ..) (Tg_set hI.1 Tg_nil)))⟩)⟩)
theorem s_adds (R : RLw xs I J ns ct ps im tx tr) (x : Int32) (hK : RKw L xs K) : WI 11 i_KN_adds [.ref 0, .int x] (mm L I J) (PQw L xs i_MD_adds [.ref 248, .int x] K) := by
  obtain ⟨hC, hM, hX, hI⟩ := id R
  have bad : x < 0 ∨ 6 ≤ x → WI 11 i_KN_adds [.ref 0, .int x] (mm L I J) (PQw L xs i_MD_adds [.ref 248, .int x] K) := fun h => (k_addN h _ _).mpr ⟨I, J, rfl, hX, (m_addN h _ _).mpr ⟨rfl, hK _ _ _ _ _ _ _ _ R⟩⟩
  rcases pk_ix x (show 6 < 2 ^ 31 by omega) with c | c | ⟨t, t1, t2⟩
  · exact bad (Or.inl c)
  · exact bad (Or.inr c)
  · subst t2
    have c12 := hC.1.2.2.2.2
    by_cases e : ct.length = 12
    · exact (k_addF hC t1 e _).mpr ⟨I, J, rfl, hX, (m_addF hM t1 e _).mpr ⟨rfl, hK _ _ _ _ _ _ _ _ R⟩⟩
    · exact k_addY hC t1 (by omega) _ (fun I1 g1 g2 => ⟨I1, J, rfl, xs1 R g2, m_addY (MdR_far hM g2) t1 (by omega) _ (fun I2 f1 f2 => ⟨rfl, hK _ _ _ _ _ _ _ _ (RLmk R g1 g2 f1 f2 (inv_rem hI rfl hI.1))⟩)⟩)
theorem s_tears (R : RLw xs I J ns ct ps im tx tr) (hK : RKw L xs K) : WI 11 i_KN_tears [.ref 0] (mm L I J) (PQw L xs i_MD_tears [.ref 248] K) := by
  obtain ⟨hC, hM, hX, hI⟩ := id R
  exact k_tears hC _ (fun I1 g1 g2 => ⟨I1, J, rfl, xs1 R g2, m_tears (MdR_far hM g2) _ (fun I2 f1 f2 => ⟨rfl, hK _ _ _ _ _ _ _ _ (RLmk R g1 g2 f1 f2 (inv_rem hI rfl hI.1))⟩)⟩)
theorem s_undo (R : RLw xs I J ns ct ps im tx tr) (hK : RKw L xs K) : WI 11 i_KN_undo [.ref 0] (mm L I J) (PQw L xs i_MD_undo [.ref 248] K) := by
  obtain ⟨hC, hM, hX, hI⟩ := id R
  cases ps with
  | nil => exact (k_undo0 hC _).mpr ⟨I, J, rfl, hX, (m_undo0 hM _).mpr ⟨rfl, hK _ _ _ _ _ _ _ _ R⟩⟩
  | cons p ps =>
    obtain ⟨b1, b2⟩ := hI.2.1 p List.mem_cons_self
    refine k_undo hC _ (fun I1 g1 g2 => ⟨I1, J, rfl, xs1 R g2, m_undo (MdR_far hM g2) b1 _ (fun I2 f1 f2 => ⟨rfl, hK _ _ _ _ _ _ _ _ (RLmk R g1 g2 f1 f2 ⟨b2, fun q hq => ?_, fun m q hq => ?_⟩)⟩)⟩)
    · rw [b1]; exact hI.2.1 q (List.mem_cons_of_mem _ hq)
    · rw [b1]; exact hI.2.2 m q hq
end SS
