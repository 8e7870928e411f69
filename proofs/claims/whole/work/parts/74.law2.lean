section ST
variable {L : Nat} {xs : Nat → Int32} {I : Nat → Nat → Int32} {J : Nat → Nat → Int64} {ns : List (List Nat)} {ct : List Nat} {ps : List Cp} {im : Nat → Option Cp} {tx : List Nat} {tr : Int64} {K : Mem → Prop}
theorem s_alike (R : RLw xs I J ns ct ps im tx tr) (x : Int32) (hK : RKw L xs K) : WI 11 i_KN_alike [.ref 0, .int x] (mm L I J) (PQw L xs i_MD_alike [.ref 248, .int x] K) := by
  obtain ⟨hC, hM, hX, hI⟩ := id R
  have n6 := hC.1.2.1
  have bad : x < 0 ∨ nI ns.length ≤ x → WI 11 i_KN_alike [.ref 0, .int x] (mm L I J) (PQw L xs i_MD_alike [.ref 248, .int x] K) := fun h => (k_alikeN hC h _).mpr ⟨I, J, rfl, hX, (m_alikeN hM h _).mpr ⟨rfl, hK _ _ _ _ _ _ _ _ R⟩⟩
  rcases pk_ix x (show ns.length < 2 ^ 31 by omega) with c | c | ⟨j, j1, j2⟩
  · exact bad (Or.inl c)
  · exact bad (Or.inr c)
  · subst j2
    exact (k_alikeY hC j1 _).mpr ⟨I, J, rfl, hX, (m_alikeY hM j1 _).mpr ⟨rfl, hK _ _ _ _ _ _ _ _ R⟩⟩
theorem s_ring (R : RLw xs I J ns ct ps im tx tr) (x : Int32) (hK : RKw L xs K) : WI 11 i_KN_ring [.ref 0, .int x] (mm L I J) (PQw L xs i_MD_ring [.ref 248, .int x] K) := by
  obtain ⟨hC, hM, hX, hI⟩ := id R
  have n6 := hC.1.2.1
  have bad : x < 0 ∨ nI ns.length ≤ x → WI 11 i_KN_ring [.ref 0, .int x] (mm L I J) (PQw L xs i_MD_ring [.ref 248, .int x] K) := fun h => (k_ringN hC h _).mpr ⟨I, J, rfl, hX, (m_ringN hM h _).mpr ⟨rfl, hK _ _ _ _ _ _ _ _ R⟩⟩
  rcases pk_ix x (show ns.length < 2 ^ 31 by omega) with c | c | ⟨j, j1, j2⟩
  · exact bad (Or.inl c)
  · exact bad (Or.inr c)
  · subst j2
    exact (k_ringY hC j1 _).mpr ⟨I, J, rfl, hX, (m_ringY hM j1 _).mpr ⟨rfl, hK _ _ _ _ _ _ _ _ R⟩⟩
theorem s_root (R : RLw xs I J ns ct ps im tx tr) (x : Int32) (hK : RKw L xs K) : WI 11 i_KN_root [.ref 0, .int x] (mm L I J) (PQw L xs i_MD_root [.ref 248, .int x] K) := by
  obtain ⟨hC, hM, hX, hI⟩ := id R
  have n6 := hC.1.2.1
  have bad : x < 0 ∨ nI ns.length ≤ x → WI 11 i_KN_root [.ref 0, .int x] (mm L I J) (PQw L xs i_MD_root [.ref 248, .int x] K) := fun h => (k_rootN hC h _).mpr ⟨I, J, rfl, hX, (m_rootN hM h _).mpr ⟨rfl, hK _ _ _ _ _ _ _ _ R⟩⟩
  rcases pk_ix x (show ns.length < 2 ^ 31 by omega) with c | c | ⟨j, j1, j2⟩
  · exact bad (Or.inl c)
  · exact bad (Or.inr c)
  · subst j2
    exact (k_rootY hC j1 _).mpr ⟨I, J, rfl, hX, (m_rootY hM j1 _).mpr ⟨rfl, hK _ _ _ _ _ _ _ _ R⟩⟩
theorem s_order (R : RLw xs I J ns ct ps im tx tr) (x : Int32) (hK : RKw L xs K) : WI 11 i_KN_order [.ref 0, .int x] (mm L I J) (PQw L xs i_MD_order [.ref 248, .int x] K) := by
  obtain ⟨hC, hM, hX, hI⟩ := id R
  have n6 := hC.1.2.1
  have bad : x < 0 ∨ nI ns.length ≤ x → WI 11 i_KN_order [.ref 0, .int x] (mm L I J) (PQw L xs i_MD_order [.ref 248, .int x] K) := fun h => (k_orderN hC h _).mpr ⟨I, J, rfl, hX, (m_orderN hM h _).mpr ⟨rfl, hK _ _ _ _ _ _ _ _ R⟩⟩
  rcases pk_ix x (show ns.length < 2 ^ 31 by omega) with c | c | ⟨j, j1, j2⟩
  · exact bad (Or.inl c)
  · exact bad (Or.inr c)
  · subst j2
    exact (k_orderY hC j1 _).mpr ⟨I, J, rfl, hX, (m_orderY hM j1 _).mpr ⟨rfl, hK _ _ _ _ _ _ _ _ R⟩⟩
theorem s_way (R : RLw xs I J ns ct ps im tx tr) (x y : Int32) (hK : RKw L xs K) : WI 11 i_KN_way [.ref 0, .int x, .int y] (mm L I J) (PQw L xs i_MD_way [.ref 248, .int x, .int y] K) := by
  obtain ⟨hC, hM, hX, hI⟩ := id R
  have n6 := hC.1.2.1
  have bad : x < 0 ∨ nI ns.length ≤ x → WI 11 i_KN_way [.ref 0, .int x, .int y] (mm L I J) (PQw L xs i_MD_way [.ref 248, .int x, .int y] K) := fun h => (k_wayN hC h _).mpr ⟨I, J, rfl, hX, (m_wayN hM h _).mpr ⟨rfl, hK _ _ _ _ _ _ _ _ R⟩⟩
  rcases pk_ix x (show ns.length < 2 ^ 31 by omega) with c | c | ⟨a, a1, a2⟩
  · exact bad (Or.inl c)
  · exact bad (Or.inr c)
  · subst a2
    have bad2 : y < 0 ∨ nI ns.length ≤ y → WI 11 i_KN_way [.ref 0, .int (nI a), .int y] (mm L I J) (PQw L xs i_MD_way [.ref 248, .int (nI a), .int y] K) := fun h => (k_wayN2 hC a1 h _).mpr ⟨I, J, rfl, hX, (m_wayN2 hM a1 h _).mpr ⟨rfl, hK _ _ _ _ _ _ _ _ R⟩⟩
    rcases pk_ix y (show ns.length < 2 ^ 31 by omega) with c | c | ⟨b, b1, b2⟩
    · exact bad2 (Or.inl c)
    · exact bad2 (Or.inr c)
    · subst b2
      exact (k_wayY hC a1 b1 _).mpr ⟨I, J, rfl, hX, (m_wayY hM a1 b1 _).mpr ⟨rfl, hK _ _ _ _ _ _ _ _ R⟩⟩
theorem s_cold (R : RLw xs I J ns ct ps im tx tr) (x y z w : Int32) (hK : RKw L xs K) : WL 11 i_KN_cold [.ref 0, .int x, .int y, .int z, .int w] (mm L I J) (PLw L xs i_MD_cold [.ref 248, .int x, .int y, .int z, .int w] K) := by
  obtain ⟨hC, hM, hX, hI⟩ := id R
  have n6 := hC.1.2.1
  have bad : x < 0 ∨ nI ns.length ≤ x → WL 11 i_KN_cold [.ref 0, .int x, .int y, .int z, .int w] (mm L I J) (PLw L xs i_MD_cold [.ref 248, .int x, .int y, .int z, .int w] K) := fun h => (k_coldN1 hC h _).mpr ⟨I, J, rfl, hX, (m_coldN1 hM h _).mpr ⟨rfl, hK _ _ _ _ _ _ _ _ R⟩⟩
  rcases pk_ix x (show ns.length < 2 ^ 31 by omega) with c | c | ⟨a, a1, a2⟩
  · exact bad (Or.inl c)
  · exact bad (Or.inr c)
  · subst a2
    have bad2 : y < 0 ∨ nI ns.length ≤ y → WL 11 i_KN_cold [.ref 0, .int (nI a), .int y, .int z, .int w] (mm L I J) (PLw L xs i_MD_cold [.ref 248, .int (nI a), .int y, .int z, .int w] K) := fun h => (k_coldN2 hC a1 h _).mpr ⟨I, J, rfl, hX, (m_coldN2 hM a1 h _).mpr ⟨rfl, hK _ _ _ _ _ _ _ _ R⟩⟩
    rcases pk_ix y (show ns.length < 2 ^ 31 by omega) with c | c | ⟨b, b1, b2⟩
    · exact bad2 (Or.inl c)
    · exact bad2 (Or.inr c)
    · subst b2
      have bad3 : z < 0 ∨ 10 < z → WL 11 i_KN_cold [.ref 0, .int (nI a), .int (nI b), .int z, .int w] (mm L I J) (PLw L xs i_MD_cold [.ref 248, .int (nI a), .int (nI b), .int z, .int w] K) := fun h => (k_coldN3 hC a1 b1 h _).mpr ⟨I, J, rfl, hX, (m_coldN3 hM a1 b1 h _).mpr ⟨rfl, hK _ _ _ _ _ _ _ _ R⟩⟩
      rcases pk_ix z (show 11 < 2 ^ 31 by omega) with c | c | ⟨p, p1, p2⟩
      · exact bad3 (Or.inl c)
      · exact bad3 (Or.inr (le_lt (b := 10) (by omega) c))
      · subst p2
        have bad4 : w < 0 ∨ 1 < w → WL 11 i_KN_cold [.ref 0, .int (nI a), .int (nI b), .int (nI p), .int w] (mm L I J) (PLw L xs i_MD_cold [.ref 248, .int (nI a), .int (nI b), .int (nI p), .int w] K) := fun h => (k_coldN4 hC a1 b1 (by omega) h _).mpr ⟨I, J, rfl, hX, (m_coldN4 hM a1 b1 (by omega) h _).mpr ⟨rfl, hK _ _ _ _ _ _ _ _ R⟩⟩
        rcases pk_ix w (show 2 < 2 ^ 31 by omega) with c | c | ⟨m, m1, m2⟩
        · exact bad4 (Or.inl c)
        · exact bad4 (Or.inr (le_lt (b := 1) (by omega) c))
        · subst m2
          exact (k_coldY hC a1 b1 (by omega) m1 _).mpr ⟨I, J, rfl, hX, (m_coldY hM a1 b1 (by omega) m1 _).mpr ⟨rfl, hK _ _ _ _ _ _ _ _ R⟩⟩
theorem s_mixed (R : RLw xs I J ns ct ps im tx tr) (x y : Int32) (hK : RKw L xs K) : WI 11 i_KN_mixed [.ref 0, .int x, .int y] (mm L I J) (PQw L xs i_MD_mixed [.ref 248, .int x, .int y] K) := by
  obtain ⟨hC, hM, hX, hI⟩ := id R
  have n6 := hC.1.2.1
  have bad : x < 0 ∨ nI ns.length ≤ x → WI 11 i_KN_mixed [.ref 0, .int x, .int y] (mm L I J) (PQw L xs i_MD_mixed [.ref 248, .int x, .int y] K) := fun h => (k_mixedN hC h _).mpr ⟨I, J, rfl, hX, (m_mixedN hM h _).mpr ⟨rfl, hK _ _ _ _ _ _ _ _ R⟩⟩
  rcases pk_ix x (show ns.length < 2 ^ 31 by omega) with c | c | ⟨a, a1, a2⟩
  · exact bad (Or.inl c)
  · exact bad (Or.inr c)
  · subst a2
    have bad2 : y < 0 ∨ 12 < y → WI 11 i_KN_mixed [.ref 0, .int (nI a), .int y] (mm L I J) (PQw L xs i_MD_mixed [.ref 248, .int (nI a), .int y] K) := fun h => (k_mixedN2 hC a1 h _).mpr ⟨I, J, rfl, hX, (m_mixedN2 hM a1 h _).mpr ⟨rfl, hK _ _ _ _ _ _ _ _ R⟩⟩
    rcases pk_ix y (show 13 < 2 ^ 31 by omega) with c | c | ⟨b, b1, b2⟩
    · exact bad2 (Or.inl c)
    · exact bad2 (Or.inr (le_lt (b := 12) (by omega) c))
    · subst b2
      exact (k_mixedY hC a1 (by omega) _).mpr ⟨I, J, rfl, hX, (m_mixedY hM a1 (by omega) _).mpr ⟨rfl, hK _ _ _ _ _ _ _ _ R⟩⟩
theorem s_newName (R : RLw xs I J ns ct ps im tx tr) (x y z : Int32) (hK : RKw L xs K) : WI 11 i_KN_newName [.ref 0, .int x, .int y, .int z] (mm L I J) (PQw L xs i_MD_newName [.ref 248, .int x, .int y, .int z] K) := by
  obtain ⟨hC, hM, hX, hI⟩ := id R
  have bad : x < 1 ∨ 4 < x → WI 11 i_KN_newName [.ref 0, .int x, .int y, .int z] (mm L I J) (PQw L xs i_MD_newName [.ref 248, .int x, .int y, .int z] K) := fun h => (k_newN1 h _ _).mpr ⟨I, J, rfl, hX, (m_newN1 h _ _).mpr ⟨rfl, hK _ _ _ _ _ _ _ _ R⟩⟩
  rcases pk_ix x (show 5 < 2 ^ 31 by omega) with c | c | ⟨n, a1, a2⟩
  · exact bad (Or.inl (lt_1 c))
  · exact bad (Or.inr (le_lt (b := 4) (by omega) c))
  · by_cases n0 : n = 0
    · exact bad (Or.inl (by rw [a2, n0]; decide))
    · subst a2
      have bad2 : y < 1 ∨ 4 < y → WI 11 i_KN_newName [.ref 0, .int (nI n), .int y, .int z] (mm L I J) (PQw L xs i_MD_newName [.ref 248, .int (nI n), .int y, .int z] K) := fun h => (k_newN2 (by omega) (by omega) h _ _).mpr ⟨I, J, rfl, hX, (m_newN2 (by omega) (by omega) h _ _).mpr ⟨rfl, hK _ _ _ _ _ _ _ _ R⟩⟩
      rcases pk_ix y (show 5 < 2 ^ 31 by omega) with c | c | ⟨D, b1, b2⟩
      · exact bad2 (Or.inl (lt_1 c))
      · exact bad2 (Or.inr (le_lt (b := 4) (by omega) c))
      · by_cases D0 : D = 0
        · exact bad2 (Or.inl (by rw [b2, D0]; decide))
        · subst b2
          have bad3 : z < -1 ∨ nI n - 1 < z → WI 11 i_KN_newName [.ref 0, .int (nI n), .int (nI D), .int z] (mm L I J) (PQw L xs i_MD_newName [.ref 248, .int (nI n), .int (nI D), .int z] K) := fun h => (k_newN3 (by omega) (by omega) (by omega) (by omega) h _ _).mpr ⟨I, J, rfl, hX, (m_newN3 (by omega) (by omega) (by omega) (by omega) h _ _).mpr ⟨rfl, hK _ _ _ _ _ _ _ _ R⟩⟩
          have good : (z = -1 ∨ ∃ k, k < n ∧ z = nI k) → WI 11 i_KN_newName [.ref 0, .int (nI n), .int (nI D), .int z] (mm L I J) (PQw L xs i_MD_newName [.ref 248, .int (nI n), .int (nI D), .int z] K) := fun h => k_newY hC (by omega) (by omega) (by omega) (by omega) h _ (fun I1 g1 g2 => ⟨I1, J, rfl, xs1 R g2, m_newY (MdR_far hM g2) (by omega) (by omega) (by omega) (by omega) h _ (fun I2 f1 f2 => ⟨rfl, hK _ _ _ _ _ _ _ _ (RLmk R g1 g2 f1 f2 hI)⟩)⟩)
          by_cases z1 : z < -1
          · exact bad3 (Or.inl z1)
          · by_cases z2 : z = -1
            · exact good (Or.inl z2)
            · obtain ⟨k, k1, k2⟩ := lt_m1 z1 z2
              by_cases kn : k < n
              · exact good (Or.inr ⟨k, kn, k2⟩)
              · refine bad3 (Or.inr ?_)
                rw [nI_m1 (by omega), k2]
                exact nI_lt (by omega) k1
theorem s_pulls (R : RLw xs I J ns ct ps im tx tr) (x : Int32) (hK : RKw L xs K) : WI 11 i_KN_pulls [.ref 0, .int x] (mm L I J) (PQw L xs i_MD_pulls [.ref 248, .int x] K) := by
  obtain ⟨hC, hM, hX, hI⟩ := id R
  refine k_pulls hC x _ (fun I1 g1 g2 => ⟨I1, J, rfl, xs1 R g2, ?_⟩)
  have bad : x < 0 ∨ nI 3 < x → WI 11 i_MD_pulls [.ref 248, .int x] (mm L I1 J) (fun b M3 => pulA ct x = b ∧ K M3) := fun h => (m_pullsN h _).mpr ⟨pulA_N h, hK _ _ _ _ _ _ _ _ (RLmk R g1 g2 (MdR_far hM g2) (FrR_rf _ _ _) hI)⟩
  rcases pk_ix x (show 4 < 2 ^ 31 by omega) with c | c | ⟨n, a1, a2⟩
  · exact bad (Or.inl c)
  · exact bad (Or.inr (le_lt (b := 3) (by omega) c))
  · subst a2
    exact m_pullsY (MdR_far hM g2) a1 _ (fun I2 f1 f2 => ⟨rfl, hK _ _ _ _ _ _ _ _ (RLmk R g1 g2 f1 f2 hI)⟩)
theorem s_lives (R : RLw xs I J ns ct ps im tx tr) (x : Int32) (hK : RKw L xs K) : WI 11 i_KN_lives [.ref 0, .int x] (mm L I J) (PQw L xs i_MD_lives [.ref 248, .int x] K) := by
  obtain ⟨hC, hM, hX, hI⟩ := id R
  by_cases z : x < -1
  · exact (k_livesN z _ _).mpr ⟨I, J, rfl, hX, (m_livesN z _ _).mpr ⟨rfl, hK _ _ _ _ _ _ _ _ R⟩⟩
  · exact k_livesY (d := 0) hC z _ (fun I1 g1 g2 => ⟨I1, J, rfl, xs1 R g2, m_livesY (MdR_far hM g2) z _ (fun I2 f1 f2 => ⟨rfl, hK _ _ _ _ _ _ _ _ (RLmk R g1 g2 f1 f2 hI)⟩)⟩)
theorem s_next (R : RLw xs I J ns ct ps im tx tr) (hK : RKw L xs K) : WI 11 i_KN_next [.ref 0] (mm L I J) (PQw L xs i_MD_next [.ref 248] K) := by
  obtain ⟨hC, hM, hX, hI⟩ := id R
  exact k_next (d := 0) hC _ (fun I1 g1 g2 => ⟨I1, J, rfl, xs1 R g2, m_next (MdR_far hM g2) _ (fun I2 f1 f2 => ⟨rfl, hK _ _ _ _ _ _ _ _ (RLmk R g1 g2 f1 f2 hI)⟩)⟩)
theorem s_porridge (R : RLw xs I J ns ct ps im tx tr) (x y z w : Int32) (hK : RKw L xs K) : WI 11 i_KN_porridge [.ref 0, .int x, .int y, .int z, .int w] (mm L I J) (PQw L xs i_MD_porridge [.ref 248, .int x, .int y, .int z, .int w] K) := by
  obtain ⟨hC, hM, hX, hI⟩ := id R
  have bad : x < 0 ∨ 10 < x → WI 11 i_KN_porridge [.ref 0, .int x, .int y, .int z, .int w] (mm L I J) (PQw L xs i_MD_porridge [.ref 248, .int x, .int y, .int z, .int w] K) := fun h => (k_porN1 h _).mpr ⟨I, J, rfl, hX, (m_porN1 h _).mpr ⟨rfl, hK _ _ _ _ _ _ _ _ R⟩⟩
  rcases pk_ix x (show 11 < 2 ^ 31 by omega) with c | c | ⟨p, a1, a2⟩
  · exact bad (Or.inl c)
  · exact bad (Or.inr (le_lt (b := 10) (by omega) c))
  · subst a2
    have bad2 : y < 0 ∨ 6 < y → WI 11 i_KN_porridge [.ref 0, .int (nI p), .int y, .int z, .int w] (mm L I J) (PQw L xs i_MD_porridge [.ref 248, .int (nI p), .int y, .int z, .int w] K) := fun h => (k_porN2 (by omega) h _).mpr ⟨I, J, rfl, hX, (m_porN2 (by omega) h _).mpr ⟨rfl, hK _ _ _ _ _ _ _ _ R⟩⟩
    rcases pk_ix y (show 7 < 2 ^ 31 by omega) with c | c | ⟨n, b1, b2⟩
    · exact bad2 (Or.inl c)
    · exact bad2 (Or.inr (le_lt (b := 6) (by omega) c))
    · subst b2
      have bad3 : z < 0 ∨ 6 < z → WI 11 i_KN_porridge [.ref 0, .int (nI p), .int (nI n), .int z, .int w] (mm L I J) (PQw L xs i_MD_porridge [.ref 248, .int (nI p), .int (nI n), .int z, .int w] K) := fun h => (k_porN3 (by omega) (by omega) h _).mpr ⟨I, J, rfl, hX, (m_porN3 (by omega) (by omega) h _).mpr ⟨rfl, hK _ _ _ _ _ _ _ _ R⟩⟩
      rcases pk_ix z (show 7 < 2 ^ 31 by omega) with c | c | ⟨k, p1, p2⟩
      · exact bad3 (Or.inl c)
      · exact bad3 (Or.inr (le_lt (b := 6) (by omega) c))
      · subst p2
        have bad4 : w < 0 ∨ 1 < w → WI 11 i_KN_porridge [.ref 0, .int (nI p), .int (nI n), .int (nI k), .int w] (mm L I J) (PQw L xs i_MD_porridge [.ref 248, .int (nI p), .int (nI n), .int (nI k), .int w] K) := fun h => (k_porN4 (by omega) (by omega) (by omega) h _).mpr ⟨I, J, rfl, hX, (m_porN4 (by omega) (by omega) (by omega) h _).mpr ⟨rfl, hK _ _ _ _ _ _ _ _ R⟩⟩
        rcases pk_ix w (show 2 < 2 ^ 31 by omega) with c | c | ⟨m, m1, m2⟩
        · exact bad4 (Or.inl c)
        · exact bad4 (Or.inr (le_lt (b := 1) (by omega) c))
        · subst m2
          exact (k_porY (by omega) (by omega) (by omega) m1 _).mpr ⟨I, J, rfl, hX, m_porY hM (by omega) (by omega) (by omega) m1 _ (fun I2 f1 f2 => ⟨rfl, hK _ _ _ _ _ _ _ _ (RLmk R hC (FrR_rf _ _ _) f1 f2 hI)⟩)⟩
theorem s_share (R : RLw xs I J ns ct ps im tx tr) (x y : Int32) (hK : RKw L xs K) : WI 11 i_KN_share [.ref 0, .int x, .int y] (mm L I J) (PQw L xs i_MD_share [.ref 248, .int x, .int y] K) := by
  obtain ⟨hC, hM, hX, hI⟩ := id R
  have n6 := hC.1.2.1
  have bad : x < 0 ∨ nI ns.length ≤ x → WI 11 i_KN_share [.ref 0, .int x, .int y] (mm L I J) (PQw L xs i_MD_share [.ref 248, .int x, .int y] K) := fun h => (k_shareN hC h _).mpr ⟨I, J, rfl, hX, (m_shareN hM h _).mpr ⟨rfl, hK _ _ _ _ _ _ _ _ R⟩⟩
  rcases pk_ix x (show ns.length < 2 ^ 31 by omega) with c | c | ⟨a, a1, a2⟩
  · exact bad (Or.inl c)
  · exact bad (Or.inr c)
  · subst a2
    have bad2 : y < 1 ∨ 99 < y → WI 11 i_KN_share [.ref 0, .int (nI a), .int y] (mm L I J) (PQw L xs i_MD_share [.ref 248, .int (nI a), .int y] K) := fun h => (k_shareN2 hC a1 h _).mpr ⟨I, J, rfl, hX, (m_shareN2 hM a1 h _).mpr ⟨rfl, hK _ _ _ _ _ _ _ _ R⟩⟩
    by_cases c1 : y < 1
    · exact bad2 (Or.inl c1)
    · by_cases c2 : 99 < y
      · exact bad2 (Or.inr c2)
      · exact (k_shareY hC a1 (Int32.not_lt.mp c1) (Int32.not_lt.mp c2) _).mpr ⟨I, J, rfl, hX, (m_shareY hM a1 (Int32.not_lt.mp c1) (Int32.not_lt.mp c2) _).mpr ⟨rfl, hK _ _ _ _ _ _ _ _ R⟩⟩
theorem MdR_J0 (h : MdR I J ns ct ps im tx tr) (v : Int64) : MdR I (up2 J 0 11 v) ns ct ps im tx tr := ⟨h.1, h.2.1, h.2.2.1, h.2.2.2.1, h.2.2.2.2.1, by rw [up2_ne _ _ _ (by omega)]; exact h.2.2.2.2.2⟩
theorem ClR_J8 (h : ClR I J ns ct ps im tx tr) (v : Int64) : ClR I (up2 J 248 8 v) ns ct ps im tx tr := ⟨h.1, h.2.1, h.2.2.1, h.2.2.2.1, h.2.2.2.2.1, by rw [up2_ne _ _ _ (by omega)]; exact h.2.2.2.2.2⟩
theorem s_rate (R : RLw xs I J ns ct ps im tx tr) (y x : Int32) (hK : RKw L xs K) : WI 11 i_KN_rate [.ref 0, .int y, .int x] (mm L I J) (PQw L xs i_MD_rate [.ref 248, .int y, .int x] K) := by
  obtain ⟨hC, hM, hX, hI⟩ := id R
  have n6 := hC.1.2.1
  have bad : x < 0 ∨ nI ns.length ≤ x → WI 11 i_KN_rate [.ref 0, .int y, .int x] (mm L I J) (PQw L xs i_MD_rate [.ref 248, .int y, .int x] K) := fun h => (k_rateN hC h _).mpr ⟨I, J, rfl, hX, (m_rateN hM h _).mpr ⟨rfl, hK _ _ _ _ _ _ _ _ R⟩⟩
  rcases pk_ix x (show ns.length < 2 ^ 31 by omega) with c | c | ⟨j, j1, j2⟩
  · exact bad (Or.inl c)
  · exact bad (Or.inr c)
  · subst j2
    have bad2 : y < 0 ∨ nI 5 < y → WI 11 i_KN_rate [.ref 0, .int y, .int (nI j)] (mm L I J) (PQw L xs i_MD_rate [.ref 248, .int y, .int (nI j)] K) := fun h => (k_rateN3 hC j1 h _).mpr ⟨I, J, rfl, hX, (m_rateN3 h _).mpr ⟨rfl, hK _ _ _ _ _ _ _ _ R⟩⟩
    rcases pk_ix y (show 6 < 2 ^ 31 by omega) with c | c | ⟨k, k1, k2⟩
    · exact bad2 (Or.inl c)
    · exact bad2 (Or.inr (le_lt (b := 5) (by omega) c))
    · subst k2
      exact (k_rateV hC j1 k1 _).mpr ⟨I, _, rfl, hX, (m_rateV (MdR_J0 hM _) j1 k1 _).mpr ⟨rfl, hK _ _ _ _ _ _ _ _ ⟨ClR_J8 (ClR_J hC _) _, MdR_J (MdR_J0 hM _) _, hX, hI⟩⟩⟩
theorem s_keep (R : RLw xs I J ns ct ps im tx tr) (x : Int32) (hK : RKw L xs K) : WI 11 i_KN_keep [.ref 0, .int x] (mm L I J) (PQw L xs i_MD_keep [.ref 248, .int x] K) := by
  obtain ⟨hC, hM, hX, hI⟩ := id R
  have bad : x < 0 ∨ 1 < x → WI 11 i_KN_keep [.ref 0, .int x] (mm L I J) (PQw L xs i_MD_keep [.ref 248, .int x] K) := fun h => (k_keepN h _ _).mpr ⟨I, J, rfl, hX, (m_keepN h _ _).mpr ⟨rfl, hK _ _ _ _ _ _ _ _ R⟩⟩
  rcases pk_ix x (show 2 < 2 ^ 31 by omega) with c | c | ⟨m, m1, m2⟩
  · exact bad (Or.inl c)
  · exact bad (Or.inr (le_lt (b := 1) (by omega) c))
  · subst m2
    refine k_keepY hC m1 _ (fun I1 g1 g2 => ⟨I1, J, rfl, xs1 R g2, m_keepY (MdR_far hM g2) m1 _ (fun I2 f1 f2 => ⟨rfl, hK _ _ _ _ _ _ _ _ (RLmk R g1 g2 f1 f2 ⟨hI.1, hI.2.1, fun k p hp => ?_⟩)⟩)⟩)
    by_cases e : k = m
    · have hp : (if k = m then some (ns, ct) else im k) = some p := hp
      rw [if_pos e] at hp
      have hp := Option.some.inj hp
      rw [← hp]
      exact ⟨rfl, hI.1⟩
    · have hp : (if k = m then some (ns, ct) else im k) = some p := hp
      rw [if_neg e] at hp
      exact hI.2.2 k p hp
theorem s_back (R : RLw xs I J ns ct ps im tx tr) (x : Int32) (hK : RKw L xs K) : WI 11 i_KN_back [.ref 0, .int x] (mm L I J) (PQw L xs i_MD_back [.ref 248, .int x] K) := by
  obtain ⟨hC, hM, hX, hI⟩ := id R
  have bad : x < 0 ∨ 1 < x → WI 11 i_KN_back [.ref 0, .int x] (mm L I J) (PQw L xs i_MD_back [.ref 248, .int x] K) := fun h => (k_backN h _ _).mpr ⟨I, J, rfl, hX, (m_backN h _ _).mpr ⟨rfl, hK _ _ _ _ _ _ _ _ R⟩⟩
  rcases pk_ix x (show 2 < 2 ^ 31 by omega) with c | c | ⟨m, m1, m2⟩
  · exact bad (Or.inl c)
  · exact bad (Or.inr (le_lt (b := 1) (by omega) c))
  · subst m2
    cases e : im m with
    | none => exact (k_backE hC m1 e _).mpr ⟨I, J, rfl, hX, (m_backE hM m1 e _).mpr ⟨rfl, hK _ _ _ _ _ _ _ _ R⟩⟩
    | some p =>
      obtain ⟨b1, b2⟩ := hI.2.2 m p e
      refine k_backY hC m1 e _ (fun I1 g1 g2 => ⟨I1, J, rfl, xs1 R g2, m_backY (MdR_far hM g2) m1 e b1 _ (fun I2 f1 f2 => ⟨rfl, hK _ _ _ _ _ _ _ _ (RLmk R g1 g2 f1 f2 ⟨b2, (fun q hq => by cases hq), fun k q hq => ?_⟩)⟩)⟩)
      rw [b1]
      exact hI.2.2 k q hq
theorem toI_z (x : Int32) (c : Nat) (hc : c < 100) : (Int32.toInt x = (c : Int)) = (x = nI c) := by
  apply propext
  rw [← nI_toInt (show c < 2 ^ 31 by omega)]
  exact Int32.toInt_inj
theorem s_count (R : RLw xs I J ns ct ps im tx tr) (x : Int32) (hK : RKw L xs K) : WI 11 i_KN_count [.ref 0, .int x] (mm L I J) (PQw L xs i_MD_count [.ref 248, .int x] K) := by
  obtain ⟨hC, hM, hX, hI⟩ := id R
  refine (k_count hC x _).mpr ⟨I, J, rfl, hX, (m_count hM x _).mpr ⟨?_, hK _ _ _ _ _ _ _ _ R⟩⟩
  have e0 : (Int32.toInt x = 0) = (x = 0) := toI_z x 0 (by omega)
  have e1 : (Int32.toInt x = 1) = (x = 1) := toI_z x 1 (by omega)
  by_cases c0 : x = 0
  · rw [if_pos (by rw [e0]; exact c0), if_pos c0]
  · rw [if_neg (by rw [e0]; exact c0), if_neg c0]
    by_cases c1 : x = 1
    · rw [if_pos (by rw [e1]; exact c1), if_pos c1]
    · rw [if_neg (by rw [e1]; exact c1), if_neg c1]
theorem s_trace (R : RLw xs I J ns ct ps im tx tr) (hK : RKw L xs K) : WL 11 i_KN_trace [.ref 0] (mm L I J) (PLw L xs i_MD_trace [.ref 248] K) := by
  obtain ⟨hC, hM, hX, hI⟩ := id R
  exact (k_trace hC _).mpr ⟨I, J, rfl, hX, (m_trace hM _).mpr ⟨rfl, hK _ _ _ _ _ _ _ _ R⟩⟩
end ST
