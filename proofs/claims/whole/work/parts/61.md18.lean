/-! ===== the model: rings, ways, roots, order ===== -/
theorem alB_iff {P : Nat → Bool} : ∀ n k, alB P n k = true ↔ ∀ j, k ≤ j → j < k + n → P j = true := by
  intro n
  induction n with
  | zero => intro k; exact ⟨fun _ j h1 h2 => by omega, fun _ => rfl⟩
  | succ n ih =>
    intro k
    by_cases h : P k = true
    · rw [alB_t h, ih (k + 1)]
      constructor
      · intro q j h1 h2
        by_cases e : j = k
        · rw [e]; exact h
        · exact q j (by omega) (by omega)
      · intro q j h1 h2
        exact q j (by omega) (by omega)
    · have h' : P k = false := by simpa using h
      rw [alB_f h']
      constructor
      · intro q; cases q
      · intro q; exact absurd (q k (Nat.le_refl _) (by omega)) h
theorem anB_iff {P : Nat → Bool} : ∀ n k, anB P n k = true ↔ ∃ j, k ≤ j ∧ j < k + n ∧ P j = true := by
  intro n
  induction n with
  | zero => intro k; exact ⟨(fun q => by cases q), (fun ⟨j, h1, h2, _⟩ => by omega)⟩
  | succ n ih =>
    intro k
    by_cases h : P k = true
    · rw [anB_t h]
      exact ⟨fun _ => ⟨k, Nat.le_refl _, by omega, h⟩, fun _ => rfl⟩
    · have h' : P k = false := by simpa using h
      rw [anB_f h', ih (k + 1)]
      constructor
      · rintro ⟨j, h1, h2, h3⟩
        exact ⟨j, by omega, by omega, h3⟩
      · rintro ⟨j, h1, h2, h3⟩
        by_cases e : j = k
        · rw [e] at h3; exact absurd h3 h
        · exact ⟨j, by omega, by omega, h3⟩
theorem fs_st {P : Nat → Bool} : ∀ n k, fs P n k < k + n → P (fs P n k) = true := by
  intro n
  induction n with
  | zero => intro k h; exact absurd h (Nat.lt_irrefl _)
  | succ n ih =>
    intro k h
    by_cases c : P k = true
    · rw [fs_t c]; exact c
    · have c' : P k = false := by simpa using c
      rw [fs_f c'] at h ⊢
      exact ih (k + 1) (by omega)
theorem mod_r {x z : Nat} (h : x < 2 * z) : x % z = if x < z then x else x - z := by
  by_cases c : x < z
  · rw [if_pos c, Nat.mod_eq_of_lt c]
  · rw [if_neg c, Nat.mod_eq_sub_mod (by omega), Nat.mod_eq_of_lt (by omega)]
/-- the model's way to compare rings -/
def mrP (l m : List Nat) (a c z b : Nat) : Nat → Bool := fun k => g0 l (a + k) == g0 m (c + (b + k) % z)
theorem ring_eq (l m : List Nat) (a c z : Nat) : anB (fun b => alB (mrP l m a c z b) z 0) z 0 = anB (fun b => alB (rbP l m b a c z) z 0) z 0 := by
  apply Bool.eq_iff_iff.mpr
  rw [anB_iff, anB_iff]
  constructor
  · rintro ⟨b, -, hb, h⟩
    rw [alB_iff] at h
    refine ⟨if b = 0 then 0 else z - b, by omega, by split <;> omega, ?_⟩
    rw [alB_iff]
    intro k _ hk
    have hk : k < z := by omega
    have hb : b < z := by omega
    have key := h (if (if b = 0 then 0 else z - b) + k < z then (if b = 0 then 0 else z - b) + k else (if b = 0 then 0 else z - b) + k - z) (by omega) (by split <;> split <;> omega)
    unfold mrP at key
    unfold rbP
    rw [mod_r (by split <;> split <;> omega)] at key
    have e : (if b + (if (if b = 0 then 0 else z - b) + k < z then (if b = 0 then 0 else z - b) + k else (if b = 0 then 0 else z - b) + k - z) < z then b + (if (if b = 0 then 0 else z - b) + k < z then (if b = 0 then 0 else z - b) + k else (if b = 0 then 0 else z - b) + k - z) else b + (if (if b = 0 then 0 else z - b) + k < z then (if b = 0 then 0 else z - b) + k else (if b = 0 then 0 else z - b) + k - z) - z) = k := by
      by_cases b0 : b = 0
      · simp only [if_pos b0]; split <;> split <;> omega
      · simp only [if_neg b0]; split <;> split <;> omega
    rw [e] at key
    exact key
  · rintro ⟨b, -, hb, h⟩
    rw [alB_iff] at h
    refine ⟨if b = 0 then 0 else z - b, by omega, by split <;> omega, ?_⟩
    rw [alB_iff]
    intro k _ hk
    have hk : k < z := by omega
    have hb : b < z := by omega
    have key := h (if (if b = 0 then 0 else z - b) + k < z then (if b = 0 then 0 else z - b) + k else (if b = 0 then 0 else z - b) + k - z) (by omega) (by split <;> split <;> omega)
    unfold rbP at key
    unfold mrP
    rw [mod_r (by split <;> omega)]
    have e : (if b + (if (if b = 0 then 0 else z - b) + k < z then (if b = 0 then 0 else z - b) + k else (if b = 0 then 0 else z - b) + k - z) < z then b + (if (if b = 0 then 0 else z - b) + k < z then (if b = 0 then 0 else z - b) + k else (if b = 0 then 0 else z - b) + k - z) else b + (if (if b = 0 then 0 else z - b) + k < z then (if b = 0 then 0 else z - b) + k else (if b = 0 then 0 else z - b) + k - z) - z) = k := by
      by_cases b0 : b = 0
      · simp only [if_pos b0]; split <;> split <;> omega
      · simp only [if_neg b0]; split <;> split <;> omega
    rw [e] at key
    exact key
section MD18
variable {d L : Nat} {I : Nat → Nat → Int32} {J : Nat → Nat → Int64} {ns : List (List Nat)} {ct : List Nat} {ps : List Cp} {im : Nat → Option Cp} {tx : List Nat} {tr : Int64}
theorem m6 (h : Ml I 249 0 ns ct) {j k : Nat} (hj : j < ns.length) (hk : k < (nmO ns j).length) : (nmO ns j).getD k 0 < 6 := Sg_6 (h.2.2.2.2 j hj).2.2 hk
theorem m_ends_loop (h : Ml I 249 0 ns ct) {j : Nat} (hj : j < ns.length) (h0 : 0 < (nmO ns j).length) (Q : Option Value → Mem → Prop) : ∀ n k, k + n = (nmO ns j).length / 2 →
    (Wn (d + 1) i_MD_ends 14 [(0, .ref 248), (1, .int (nI j)), (2, .int (nI k)), (3, .int (nI ((nmO ns j).length - 1)))] [] (mm L I J) Q ↔ Q (some (.int (nI (fs (losP (nmO ns j)) n k)))) (mm L I J)) := by
  have la := mle h hj
  intro n
  induction n with
  | zero =>
    intro k hk
    rw [H_MD_ends_14, pk_sub (by omega), if_neg (nI_nlt (by omega) (by omega))]
    rfl
  | succ n ih =>
    intro k hk
    have x1 := m6 h hj (show k < (nmO ns j).length by omega)
    have x2 := m6 h hj (show (nmO ns j).length - 1 - k < (nmO ns j).length by omega)
    have x3 := x1_lt x2
    rw [H_MD_ends_14, pk_sub (by omega), if_pos (nI_lt (by omega) (by omega)), mm_C, if_pos CL248, m_turnAt h hj (by omega), mm_C, if_pos CL248, m_turnAt h hj (by omega), nI_x1 x2, nI_1, ih (k + 1) (by omega)]
    by_cases e : (nmO ns j).getD k 0 = (nmO ns j).getD ((nmO ns j).length - 1 - k) 0 ^^^ 1
    · rw [if_pos (by rw [e]), fs_f (nb_f e)]
    · rw [if_neg (fun q => e ((nI_eq (by omega) (by omega)).mp q)), fs_t (nb_t e)]
theorem m_ends (h : Ml I 249 0 ns ct) {j : Nat} (hj : j < ns.length) (Q : Int32 → Mem → Prop) : WI (d + 1) i_MD_ends [.ref 248, .int (nI j)] (mm L I J) Q ↔ Q (nI (los (nmO ns j))) (mm L I J) := by
  have h6 := h.2.2.2.1
  rw [E_MD_ends, e13]
  simp only [mm_C, mm_R, mm_L, mm_I, mm_sI, CL248, CL249, CL250, CL251, CL252, CL253, CL254, CL255, CL256, CL257, CL258, CL259, CL260, CL261, RR248_1, RR248_2, RR248_4, RR248_5, RR248_6, RR248_9, RR248_11, RR248_13, RR248_14, RR248_15, RR248_16, RR248_17, RR248_19, n249, n250, n251, n252, n253, n254, n255, n256, n257, n258, n259, n260, n261, LN249, LN250, LN251, LN252, LN253, LN254, LN255, LN256, LN257, LN258, LN259, LN260, LN261, ↓reduceIte]
  rw [if_pos (ok13 (by omega)), mlen h hj]
  by_cases h0 : 0 < (nmO ns j).length
  · have := m_ends_loop (d := d) (L := L) (J := J) h hj h0 (QI Q) ((nmO ns j).length / 2) 0 (by omega)
    rw [nI_0] at this
    rw [nI_m1 h0]
    exact this
  · have e0 : (nmO ns j).length = 0 := by omega
    have el : los (nmO ns j) = 0 := by unfold los; rw [e0]; rfl
    rw [e0, el, H_MD_ends_14, if_neg (by decide)]
    exact Iff.rfl
theorem m_ring_in (h : Ml I 249 0 ns ct) {e j a c z b : Nat} (he : e < ns.length) (hj : j < ns.length) (ha : a + z ≤ (nmO ns e).length) (hc : c + z ≤ (nmO ns j).length) (Q : Option Value → Mem → Prop) : ∀ n k f, k + n = z → b < z →
    (Wn (d + 1) i_MD_isRing 82 [(0, .ref 248), (1, .int (nI e)), (2, .int (nI j)), (3, .int (nI a)), (4, .int (nI c)), (5, .int (nI z)), (6, .int (bI f)), (7, .int (nI b)), (8, .int (nI k))] [] (mm L I J) Q ↔ Wn (d + 1) i_MD_isRing 64 [(0, .ref 248), (1, .int (nI e)), (2, .int (nI j)), (3, .int (nI a)), (4, .int (nI c)), (5, .int (nI z)), (6, .int (bI (f && alB (mrP (nmO ns e) (nmO ns j) a c z b) n k))), (7, .int (nI (b + 1)))] [] (mm L I J) Q) := by
  have la := mle h he
  have lj := mle h hj
  intro n
  induction n with
  | zero =>
    intro k f hk hb
    rw [H_MD_isRing_82, if_neg (nI_nlt (by omega) (by omega)), nI_1]
    show _ ↔ Wn _ _ _ [_, _, _, _, _, _, (6, .int (bI (f && true))), _] _ _ _
    rw [Bool.and_true]
  | succ n ih =>
    intro k f hk hb
    have hm : (b + k) % z < z := Nat.mod_lt _ (by omega)
    have x1 := m6 h he (show a + k < (nmO ns e).length by omega)
    have x2 := m6 h hj (show c + (b + k) % z < (nmO ns j).length by omega)
    rw [H_MD_isRing_82, if_pos (nI_lt (by omega) (by omega)), nI_add, nI_add, pk_rem (by omega) (by omega) (by omega), nI_add, nI_1]
    have it := ih (k + 1) true (by omega) hb
    have ifl := ih (k + 1) false (by omega) hb
    have b1 : bI true = 1 := rfl
    have b0 : bI false = 0 := rfl
    rw [b1] at it
    rw [b0] at ifl
    cases f with
    | false =>
      rw [if_pos (by rfl), ifl, Bool.false_and, Bool.false_and]
    | true =>
      rw [if_neg (by decide), mm_C, if_pos CL248, m_turnAt h he (by omega), if_neg (nI_ne0 (by omega) (by omega)), mm_C, if_pos CL248, m_turnAt h hj (by omega), it, ifl]
      by_cases q : (nmO ns e).getD (a + k) 0 = (nmO ns j).getD (c + (b + k) % z) 0
      · rw [if_pos (by rw [q]), alB_t (P := mrP (nmO ns e) (nmO ns j) a c z b) (eb_t q)]
      · rw [if_neg (fun r => q ((nI_eq (by omega) (by omega)).mp r)), alB_f (P := mrP (nmO ns e) (nmO ns j) a c z b) (eb_f q)]
        rfl
theorem m_ring_out (h : Ml I 249 0 ns ct) {e j a c z : Nat} (he : e < ns.length) (hj : j < ns.length) (ha : a + z ≤ (nmO ns e).length) (hc : c + z ≤ (nmO ns j).length) (Q : Option Value → Mem → Prop) : ∀ n b f, b + n = z →
    (Wn (d + 1) i_MD_isRing 64 [(0, .ref 248), (1, .int (nI e)), (2, .int (nI j)), (3, .int (nI a)), (4, .int (nI c)), (5, .int (nI z)), (6, .int (bI f)), (7, .int (nI b))] [] (mm L I J) Q ↔ Q (some (.int (bI (f || anB (fun b => alB (mrP (nmO ns e) (nmO ns j) a c z b) z 0) n b)))) (mm L I J)) := by
  have la := mle h he
  have lj := mle h hj
  intro n
  induction n with
  | zero =>
    intro b f hb
    rw [H_MD_isRing_64, if_neg (nI_nlt (by omega) (by omega)), if_pos (bI_01 _)]
    show _ ↔ Q (some (.int (bI (f || false)))) _
    rw [Bool.or_false]
  | succ n ih =>
    intro b f hb
    rw [H_MD_isRing_64, if_pos (nI_lt (by omega) (by omega))]
    cases f with
    | true =>
      rw [if_neg (by decide), if_pos (bI_01 _), Bool.true_or]
    | false =>
      have it := m_ring_in (d := d) (L := L) (J := J) (b := b) h he hj ha hc Q z 0 true (by omega) (by omega)
      have b1 : bI true = 1 := rfl
      rw [b1, nI_0, Bool.true_and] at it
      rw [if_pos (by rfl), it, ih (b + 1) _ (by omega), Bool.false_or]
      cases q : alB (mrP (nmO ns e) (nmO ns j) a c z b) z 0 with
      | true => rw [anB_t (P := fun b => alB (mrP (nmO ns e) (nmO ns j) a c z b) z 0) q, Bool.true_or]
      | false => rw [anB_f (P := fun b => alB (mrP (nmO ns e) (nmO ns j) a c z b) z 0) q, Bool.false_or]
theorem m_isRing (h : Ml I 249 0 ns ct) {e j : Nat} (he : e < ns.length) (hj : j < ns.length) (Q : Int32 → Mem → Prop) : WI (d + 2) i_MD_isRing [.ref 248, .int (nI e), .int (nI j)] (mm L I J) Q ↔ Q (bI (rngB (nmO ns e) (nmO ns j))) (mm L I J) := by
  have h6 := h.2.2.2.1
  have la := mle h he
  have lj := mle h hj
  have h1 := los_le (nmO ns e)
  have h2 := los_le (nmO ns j)
  have e2 : ∀ k : Nat, (2 : Int32) * nI k = nI (2 * k) := fun k => pk_mul 2 k
  rw [E_MD_isRing, mm_C, if_pos CL248, m_ends h he, mm_C, if_pos CL248, m_ends h hj, e13, e13]
  simp only [mm_C, mm_R, mm_L, mm_I, mm_sI, CL248, CL249, CL250, CL251, CL252, CL253, CL254, CL255, CL256, CL257, CL258, CL259, CL260, CL261, RR248_1, RR248_2, RR248_4, RR248_5, RR248_6, RR248_9, RR248_11, RR248_13, RR248_14, RR248_15, RR248_16, RR248_17, RR248_19, n249, n250, n251, n252, n253, n254, n255, n256, n257, n258, n259, n260, n261, LN249, LN250, LN251, LN252, LN253, LN254, LN255, LN256, LN257, LN258, LN259, LN260, LN261, ↓reduceIte]
  rw [if_pos (ok13 (by omega)), if_pos (ok13 (by omega)), mlen h he, mlen h hj, e2, e2, pk_sub h1, pk_sub h2]
  unfold rngB
  rw [← ring_eq]
  by_cases c : (nmO ns e).length - 2 * los (nmO ns e) = (nmO ns j).length - 2 * los (nmO ns j)
  · rw [if_pos (by rw [c]), eb_t c, Bool.true_and]
    by_cases z : (nmO ns e).length - 2 * los (nmO ns e) = 0
    · have ot := m_ring_out (d := d + 1) (L := L) (J := J) (a := los (nmO ns e)) (c := los (nmO ns j)) (z := (nmO ns e).length - 2 * los (nmO ns e)) h he hj (by omega) (by omega) (QI Q) ((nmO ns e).length - 2 * los (nmO ns e)) 0 true (by omega)
      rw [nI_0, Bool.true_or] at ot
      rw [if_pos ((nI_z (by omega)).mpr z), eb_t z, Bool.or_true]
      exact ot
    · have ot := m_ring_out (d := d + 1) (L := L) (J := J) (a := los (nmO ns e)) (c := los (nmO ns j)) (z := (nmO ns e).length - 2 * los (nmO ns e)) h he hj (by omega) (by omega) (QI Q) ((nmO ns e).length - 2 * los (nmO ns e)) 0 false (by omega)
      rw [nI_0, Bool.false_or] at ot
      rw [if_neg (fun q => z ((nI_z (by omega)).mp q)), eb_f z, Bool.or_false]
      exact ot
  · rw [if_neg (fun q => c ((nI_eq (by omega) (by omega)).mp q)), eb_f c, Bool.false_and]
    rfl
theorem m_ring_loop (hm : I 248 0 = nI ns.length) (h : Ml I 249 0 ns ct) {j : Nat} (hj : j < ns.length) (Q : Option Value → Mem → Prop) : ∀ n k s, k + n = ns.length →
    (Wn (d + 3) i_MD_ring 14 [(0, .ref 248), (1, .int (nI j)), (2, .int s), (3, .int (nI k))] [] (mm L I J) Q ↔ Q (some (.int (bts (rngP ns j) n k s))) (mm L I J)) := by
  have h6 := h.2.2.2.1
  intro n
  induction n with
  | zero =>
    intro k s hk
    rw [H_MD_ring_14, mm_C, if_pos CL248, mm_I, hm, if_neg (nI_nlt (by omega) (by omega))]
    rfl
  | succ n ih =>
    intro k s hk
    rw [H_MD_ring_14, mm_C, if_pos CL248, mm_I, hm, if_pos (nI_lt (by omega) (by omega)), if_pos CL248, m_isRing h hj (by omega), Int32.or_zero, nI_1, ih (k + 1) _ (by omega), ih (k + 1) _ (by omega)]
    by_cases e : rngB (nmO ns j) (nmO ns k) = true
    · rw [if_neg (fun q => by rw [bI_0.mp q] at e; cases e), bts_t (P := rngP ns j) e]
    · have e : rngB (nmO ns j) (nmO ns k) = false := by simpa using e
      rw [if_pos (bI_0.mpr e), bts_f (P := rngP ns j) e]
theorem m_ringN (h : MdR I J ns ct ps im tx tr) {x : Int32} (hx : x < 0 ∨ nI ns.length ≤ x) (Q : Int32 → Mem → Prop) : WI (d + 2) i_MD_ring [.ref 248, .int x] (mm L I J) Q ↔ Q (-1) (mm L I J) := by
  rw [E_MD_ring, mm_C, if_pos CL248, m_herdN h hx, if_pos rfl]
theorem m_ringY (h : MdR I J ns ct ps im tx tr) {j : Nat} (hj : j < ns.length) (Q : Int32 → Mem → Prop) : WI (d + 3) i_MD_ring [.ref 248, .int (nI j)] (mm L I J) Q ↔ Q (bts (rngP ns j) ns.length 0 0) (mm L I J) := by
  have := m_ring_loop (d := d) (L := L) (J := J) h.1 h.2.1 hj (QI Q) ns.length 0 0 (by omega)
  rw [nI_0] at this
  rw [E_MD_ring, mm_C, if_pos CL248, m_herdY h hj, if_neg i10]
  exact this
theorem m_way_loop (h : Ml I 249 0 ns ct) {a b : Nat} (ha : a < ns.length) (hb : b < ns.length) (Q : Option Value → Mem → Prop) : ∀ n k, k + n = min (nmO ns a).length (nmO ns b).length →
    (Wn (d + 1) i_MD_way 20 [(0, .ref 248), (1, .int (nI a)), (2, .int (nI b)), (3, .int (nI k))] [] (mm L I J) Q ↔ Q (some (.int (nI (nmO ns a).length + nI (nmO ns b).length - 2 * nI (fs (fun j => !(g0 (nmO ns a) j == g0 (nmO ns b) j)) n k)))) (mm L I J)) := by
  have h6 := h.2.2.2.1
  have la := mle h ha
  have lb := mle h hb
  intro n
  induction n with
  | zero =>
    intro k hk
    rw [H_MD_way_20, e13, e13]
    simp only [mm_C, mm_R, mm_L, mm_I, mm_sI, CL248, CL249, CL250, CL251, CL252, CL253, CL254, CL255, CL256, CL257, CL258, CL259, CL260, CL261, RR248_1, RR248_2, RR248_4, RR248_5, RR248_6, RR248_9, RR248_11, RR248_13, RR248_14, RR248_15, RR248_16, RR248_17, RR248_19, n249, n250, n251, n252, n253, n254, n255, n256, n257, n258, n259, n260, n261, LN249, LN250, LN251, LN252, LN253, LN254, LN255, LN256, LN257, LN258, LN259, LN260, LN261, ↓reduceIte]
    rw [if_pos (ok13 (by omega)), if_pos (ok13 (by omega)), if_pos (ok13 (by omega)), if_pos (ok13 (by omega)), mlen h ha, mlen h hb]
    by_cases c : k < (nmO ns a).length
    · rw [if_pos (nI_lt c (by omega)), if_neg (nI_nlt (by omega) (by omega))]
      exact Iff.rfl
    · rw [if_neg (nI_nlt (by omega) (by omega))]
      exact Iff.rfl
  | succ n ih =>
    intro k hk
    have x1 := m6 h ha (show k < (nmO ns a).length by omega)
    have x2 := m6 h hb (show k < (nmO ns b).length by omega)
    rw [H_MD_way_20, e13, e13]
    simp only [mm_C, mm_R, mm_L, mm_I, mm_sI, CL248, CL249, CL250, CL251, CL252, CL253, CL254, CL255, CL256, CL257, CL258, CL259, CL260, CL261, RR248_1, RR248_2, RR248_4, RR248_5, RR248_6, RR248_9, RR248_11, RR248_13, RR248_14, RR248_15, RR248_16, RR248_17, RR248_19, n249, n250, n251, n252, n253, n254, n255, n256, n257, n258, n259, n260, n261, LN249, LN250, LN251, LN252, LN253, LN254, LN255, LN256, LN257, LN258, LN259, LN260, LN261, ↓reduceIte]
    rw [if_pos (ok13 (by omega)), if_pos (ok13 (by omega)), mlen h ha, mlen h hb, if_pos (nI_lt (by omega) (by omega)), if_pos (nI_lt (by omega) (by omega)), m_turnAt h ha (by omega)]
    simp only [mm_C, mm_R, mm_L, mm_I, mm_sI, CL248, CL249, CL250, CL251, CL252, CL253, CL254, CL255, CL256, CL257, CL258, CL259, CL260, CL261, RR248_1, RR248_2, RR248_4, RR248_5, RR248_6, RR248_9, RR248_11, RR248_13, RR248_14, RR248_15, RR248_16, RR248_17, RR248_19, n249, n250, n251, n252, n253, n254, n255, n256, n257, n258, n259, n260, n261, LN249, LN250, LN251, LN252, LN253, LN254, LN255, LN256, LN257, LN258, LN259, LN260, LN261, ↓reduceIte]
    rw [m_turnAt h hb (by omega), nI_1, ih (k + 1) (by omega)]
    by_cases e : (nmO ns a).getD k 0 = (nmO ns b).getD k 0
    · rw [if_pos (by rw [e]), fs_f (nb_f e)]
    · rw [if_neg (fun q => e ((nI_eq (by omega) (by omega)).mp q)), fs_t (nb_t e)]
      simp only [mm_C, mm_R, mm_L, mm_I, mm_sI, CL248, CL249, CL250, CL251, CL252, CL253, CL254, CL255, CL256, CL257, CL258, CL259, CL260, CL261, RR248_1, RR248_2, RR248_4, RR248_5, RR248_6, RR248_9, RR248_11, RR248_13, RR248_14, RR248_15, RR248_16, RR248_17, RR248_19, n249, n250, n251, n252, n253, n254, n255, n256, n257, n258, n259, n260, n261, LN249, LN250, LN251, LN252, LN253, LN254, LN255, LN256, LN257, LN258, LN259, LN260, LN261, ↓reduceIte]
      rw [if_pos (ok13 (by omega)), if_pos (ok13 (by omega)), mlen h ha, mlen h hb]
theorem m_wayN (h : MdR I J ns ct ps im tx tr) {x y : Int32} (hx : x < 0 ∨ nI ns.length ≤ x) (Q : Int32 → Mem → Prop) : WI (d + 2) i_MD_way [.ref 248, .int x, .int y] (mm L I J) Q ↔ Q (-1) (mm L I J) := by
  rw [E_MD_way, mm_C, if_pos CL248, m_herdN h hx, if_pos rfl]
theorem m_wayN2 (h : MdR I J ns ct ps im tx tr) {a : Nat} (ha : a < ns.length) {y : Int32} (hy : y < 0 ∨ nI ns.length ≤ y) (Q : Int32 → Mem → Prop) : WI (d + 2) i_MD_way [.ref 248, .int (nI a), .int y] (mm L I J) Q ↔ Q (-1) (mm L I J) := by
  rw [E_MD_way, mm_C, if_pos CL248, m_herdY h ha, if_neg i10, mm_C, if_pos CL248, m_herdN h hy, if_pos rfl]
theorem m_wayY (h : MdR I J ns ct ps im tx tr) {a b : Nat} (ha : a < ns.length) (hb : b < ns.length) (Q : Int32 → Mem → Prop) : WI (d + 2) i_MD_way [.ref 248, .int (nI a), .int (nI b)] (mm L I J) Q ↔ Q (nI (nmO ns a).length + nI (nmO ns b).length - 2 * nI (lcp (nmO ns a) (nmO ns b))) (mm L I J) := by
  have := m_way_loop (d := d + 1) (L := L) (J := J) h.2.1 ha hb (QI Q) (min (nmO ns a).length (nmO ns b).length) 0 (by omega)
  rw [nI_0] at this
  rw [E_MD_way, mm_C, if_pos CL248, m_herdY h ha, if_neg i10, mm_C, if_pos CL248, m_herdY h hb, if_neg i10]
  exact this
theorem m_root_in (h : Ml I 249 0 ns ct) {j z : Nat} (hj : j < ns.length) (hz : z ≤ (nmO ns j).length) (Q : Option Value → Mem → Prop) : ∀ n k f, z ≤ k → k + n = (nmO ns j).length →
    (Wn (d + 1) i_MD_rootOf 33 [(0, .ref 248), (1, .int (nI j)), (2, .int (nI (nmO ns j).length)), (3, .int (nI z)), (4, .int (bI f)), (5, .int (nI k))] [] (mm L I J) Q ↔ (if (f && alB (repP (nmO ns j) z) n k) = true then Q (some (.int (nI z))) (mm L I J) else Wn (d + 1) i_MD_rootOf 12 [(0, .ref 248), (1, .int (nI j)), (2, .int (nI (nmO ns j).length)), (3, .int (nI (z + 1)))] [] (mm L I J) Q)) := by
  have la := mle h hj
  intro n
  induction n with
  | zero =>
    intro k f h1 hk
    rw [H_MD_rootOf_33, if_neg (nI_nlt (by omega) (by omega)), nI_1]
    cases f with
    | false => rw [if_pos (by rfl), Bool.false_and, if_neg (by decide)]
    | true => rw [if_neg (by decide), Bool.true_and, if_pos (by rfl)]
  | succ n ih =>
    intro k f h1 hk
    have x1 := m6 h hj (show k < (nmO ns j).length by omega)
    have x2 := m6 h hj (show k - z < (nmO ns j).length by omega)
    have it := ih (k + 1) true (by omega) (by omega)
    have ifl := ih (k + 1) false (by omega) (by omega)
    have b1 : bI true = 1 := rfl
    have b0 : bI false = 0 := rfl
    rw [b1] at it
    rw [b0] at ifl
    rw [H_MD_rootOf_33, if_pos (nI_lt (by omega) (by omega)), nI_1]
    cases f with
    | false => rw [if_pos (by rfl), ifl, Bool.false_and, Bool.false_and]
    | true =>
      rw [if_neg (by decide), mm_C, if_pos CL248, m_turnAt h hj (by omega), mm_C, if_pos CL248, pk_sub h1, m_turnAt h hj (by omega), it, ifl]
      by_cases q : (nmO ns j).getD k 0 = (nmO ns j).getD (k - z) 0
      · rw [if_pos (by rw [q]), alB_t (P := repP (nmO ns j) z) (eb_t q)]
      · rw [if_neg (fun r => q ((nI_eq (by omega) (by omega)).mp r)), alB_f (P := repP (nmO ns j) z) (eb_f q), Bool.false_and, Bool.and_false]
theorem m_root_out (h : Ml I 249 0 ns ct) {j : Nat} (hj : j < ns.length) (Q : Option Value → Mem → Prop) : ∀ n z, 1 ≤ z → z + n = (nmO ns j).length →
    (Wn (d + 1) i_MD_rootOf 12 [(0, .ref 248), (1, .int (nI j)), (2, .int (nI (nmO ns j).length)), (3, .int (nI z))] [] (mm L I J) Q ↔ Q (some (.int (nI (fs (rooP (nmO ns j)) n z)))) (mm L I J)) := by
  have la := mle h hj
  intro n
  induction n with
  | zero =>
    intro z h1 hz
    have it := m_root_in (d := d) (L := L) (J := J) (z := z) h hj (by omega) Q 0 z true (Nat.le_refl _) (by omega)
    have b1 : bI true = 1 := rfl
    rw [b1, Bool.true_and, if_pos (by rfl)] at it
    rw [H_MD_rootOf_12, if_neg (nI_nlt (by omega) (by omega)), if_neg (nI_ne0 (by omega) (by omega)), pk_rem (by omega) (by omega) (by omega), if_pos (by rw [show (nmO ns j).length = z by omega, Nat.mod_self]; rfl), it]
    rfl
  | succ n ih =>
    intro z h1 hz
    have it := m_root_in (d := d) (L := L) (J := J) (z := z) h hj (by omega) Q ((nmO ns j).length - z) z true (Nat.le_refl _) (by omega)
    have ifl := m_root_in (d := d) (L := L) (J := J) (z := z) h hj (by omega) Q ((nmO ns j).length - z) z false (Nat.le_refl _) (by omega)
    have b1 : bI true = 1 := rfl
    have b0 : bI false = 0 := rfl
    rw [b1, Bool.true_and, ih (z + 1) (by omega) (by omega)] at it
    rw [b0, Bool.false_and, if_neg (by decide), ih (z + 1) (by omega) (by omega)] at ifl
    have hlt : (nmO ns j).length % z < z := Nat.mod_lt _ (by omega)
    rw [H_MD_rootOf_12, if_neg (nI_nlt (by omega) (by omega)), if_neg (nI_ne0 (by omega) (by omega)), pk_rem (by omega) (by omega) (by omega), it, ifl]
    by_cases e : (nmO ns j).length % z = 0
    · rw [if_pos ((nI_z (by omega)).mpr e)]
      cases e2 : alB (repP (nmO ns j) z) ((nmO ns j).length - z) z with
      | true => rw [if_pos rfl, fs_t (by unfold rooP repB; rw [eb_t e, e2]; rfl)]
      | false => rw [if_neg (by decide), fs_f (by unfold rooP repB; rw [e2, Bool.and_false])]
    · rw [if_neg (fun q => e ((nI_z (by omega)).mp q)), fs_f (by unfold rooP; rw [eb_f e]; rfl)]
theorem m_rootOf (h : Ml I 249 0 ns ct) {j : Nat} (hj : j < ns.length) (Q : Int32 → Mem → Prop) : WI (d + 1) i_MD_rootOf [.ref 248, .int (nI j)] (mm L I J) Q ↔ Q (nI (roo (nmO ns j))) (mm L I J) := by
  have h6 := h.2.2.2.1
  rw [E_MD_rootOf, e13]
  simp only [mm_C, mm_R, mm_L, mm_I, mm_sI, CL248, CL249, CL250, CL251, CL252, CL253, CL254, CL255, CL256, CL257, CL258, CL259, CL260, CL261, RR248_1, RR248_2, RR248_4, RR248_5, RR248_6, RR248_9, RR248_11, RR248_13, RR248_14, RR248_15, RR248_16, RR248_17, RR248_19, n249, n250, n251, n252, n253, n254, n255, n256, n257, n258, n259, n260, n261, LN249, LN250, LN251, LN252, LN253, LN254, LN255, LN256, LN257, LN258, LN259, LN260, LN261, ↓reduceIte]
  rw [if_pos (ok13 (by omega)), mlen h hj]
  unfold roo
  by_cases h0 : (nmO ns j).length = 0
  · rw [if_pos h0, h0, H_MD_rootOf_12, if_pos (by decide)]
    exact Iff.rfl
  · rw [if_neg h0]
    exact m_root_out h hj (QI Q) ((nmO ns j).length - 1) 1 (by omega) (by omega)
theorem m_rootN (h : MdR I J ns ct ps im tx tr) {x : Int32} (hx : x < 0 ∨ nI ns.length ≤ x) (Q : Int32 → Mem → Prop) : WI (d + 2) i_MD_root [.ref 248, .int x] (mm L I J) Q ↔ Q (-1) (mm L I J) := by
  rw [E_MD_root, mm_C, if_pos CL248, m_herdN h hx, if_pos rfl]
theorem m_rootY (h : MdR I J ns ct ps im tx tr) {j : Nat} (hj : j < ns.length) (Q : Int32 → Mem → Prop) : WI (d + 2) i_MD_root [.ref 248, .int (nI j)] (mm L I J) Q ↔ Q (nI (roo (nmO ns j))) (mm L I J) := by
  rw [E_MD_root, mm_C, if_pos CL248, m_herdY h hj, if_neg i10, mm_C, if_pos CL248, m_rootOf h.2.1 hj]
theorem m_ahd_loop (h : Ml I 249 0 ns ct) {a b : Nat} (ha : a < ns.length) (hb : b < ns.length) (he : (nmO ns a).length = (nmO ns b).length) (Q : Option Value → Mem → Prop) : ∀ n k, k + n = (nmO ns a).length →
    (Wn (d + 1) i_MD_isAhead 50 [(0, .ref 248), (1, .int (nI a)), (2, .int (nI b)), (3, .int (nI k))] [] (mm L I J) Q ↔ Q (some (.int (bI (if fs (fun j => !(g0 (nmO ns a) j == g0 (nmO ns b) j)) n k < (nmO ns a).length then decide (g0 (nmO ns a) (fs (fun j => !(g0 (nmO ns a) j == g0 (nmO ns b) j)) n k) < g0 (nmO ns b) (fs (fun j => !(g0 (nmO ns a) j == g0 (nmO ns b) j)) n k)) else decide (a < b))))) (mm L I J)) := by
  have h6 := h.2.2.2.1
  have la := mle h ha
  intro n
  induction n with
  | zero =>
    intro k hk
    rw [H_MD_isAhead_50, e13]
    simp only [mm_C, mm_R, mm_L, mm_I, mm_sI, CL248, CL249, CL250, CL251, CL252, CL253, CL254, CL255, CL256, CL257, CL258, CL259, CL260, CL261, RR248_1, RR248_2, RR248_4, RR248_5, RR248_6, RR248_9, RR248_11, RR248_13, RR248_14, RR248_15, RR248_16, RR248_17, RR248_19, n249, n250, n251, n252, n253, n254, n255, n256, n257, n258, n259, n260, n261, LN249, LN250, LN251, LN252, LN253, LN254, LN255, LN256, LN257, LN258, LN259, LN260, LN261, ↓reduceIte]
    rw [if_pos (ok13 (by omega)), mlen h ha, if_neg (nI_nlt (by omega) (by omega))]
    show _ ↔ Q (some (.int (bI (if k < (nmO ns a).length then _ else _)))) _
    rw [if_neg (show ¬ k < (nmO ns a).length by omega)]
    by_cases c : a < b
    · rw [if_pos (nI_lt c (by omega)), decide_eq_true c]
      exact Iff.rfl
    · rw [if_neg (nI_nlt (by omega) (by omega)), decide_eq_false c]
      exact Iff.rfl
  | succ n ih =>
    intro k hk
    have x1 := m6 h ha (show k < (nmO ns a).length by omega)
    have x2 := m6 h hb (show k < (nmO ns b).length by omega)
    rw [H_MD_isAhead_50, e13]
    simp only [mm_C, mm_R, mm_L, mm_I, mm_sI, CL248, CL249, CL250, CL251, CL252, CL253, CL254, CL255, CL256, CL257, CL258, CL259, CL260, CL261, RR248_1, RR248_2, RR248_4, RR248_5, RR248_6, RR248_9, RR248_11, RR248_13, RR248_14, RR248_15, RR248_16, RR248_17, RR248_19, n249, n250, n251, n252, n253, n254, n255, n256, n257, n258, n259, n260, n261, LN249, LN250, LN251, LN252, LN253, LN254, LN255, LN256, LN257, LN258, LN259, LN260, LN261, ↓reduceIte]
    rw [if_pos (ok13 (by omega)), mlen h ha, if_pos (nI_lt (by omega) (by omega)), m_turnAt h ha (by omega), mm_C, if_pos CL248, m_turnAt h hb (by omega), nI_1, ih (k + 1) (by omega)]
    by_cases e : (nmO ns a).getD k 0 = (nmO ns b).getD k 0
    · rw [if_pos (by rw [e]), fs_f (nb_f e)]
    · rw [if_neg (fun q => e ((nI_eq (by omega) (by omega)).mp q)), fs_t (nb_t e), mm_C, if_pos CL248, m_turnAt h ha (by omega), mm_C, if_pos CL248, m_turnAt h hb (by omega), if_pos (show k < (nmO ns a).length by omega)]
      by_cases c : g0 (nmO ns a) k < g0 (nmO ns b) k
      · have c1 : nI ((nmO ns a).getD k 0) < nI ((nmO ns b).getD k 0) := nI_lt c (by omega)
        rw [if_pos c1, decide_eq_true c]
        exact Iff.rfl
      · have c0 : (nmO ns b).getD k 0 ≤ (nmO ns a).getD k 0 := Nat.le_of_not_lt c
        rw [if_neg (nI_nlt c0 (by omega)), decide_eq_false c]
        exact Iff.rfl
theorem lt01 : ¬ (0 : Int32) < 0 ∧ ¬ (1 : Int32) < 0 ∧ (-1 : Int32) < 0 ∧ ¬ (1 : Int32) = 0 ∧ ¬ (-1 : Int32) = 0 := by decide
theorem m_ahd (h : Ml I 249 0 ns ct) {a j : Nat} (ha : a < ns.length) (hj : j < ns.length) (Q : Int32 → Mem → Prop) : WI (d + 1) i_MD_isAhead [.ref 248, .int (nI a), .int (nI j)] (mm L I J) Q ↔ Q (bI (ordP ns j a)) (mm L I J) := by
  have h6 := h.2.2.2.1
  have la := mle h ha
  have lj := mle h hj
  obtain ⟨z1, z2, z3, z4, z5⟩ := lt01
  rw [E_MD_isAhead, e13, e13]
  simp only [mm_C, mm_R, mm_L, mm_I, mm_sI, CL248, CL249, CL250, CL251, CL252, CL253, CL254, CL255, CL256, CL257, CL258, CL259, CL260, CL261, RR248_1, RR248_2, RR248_4, RR248_5, RR248_6, RR248_9, RR248_11, RR248_13, RR248_14, RR248_15, RR248_16, RR248_17, RR248_19, n249, n250, n251, n252, n253, n254, n255, n256, n257, n258, n259, n260, n261, LN249, LN250, LN251, LN252, LN253, LN254, LN255, LN256, LN257, LN258, LN259, LN260, LN261, ↓reduceIte]
  rw [if_pos (ok13 (by omega)), if_pos (ok13 (by omega)), if_pos (ok13 (by omega)), if_pos (ok13 (by omega)), mlen h ha, mlen h hj]
  by_cases e : (nmO ns a).length = (nmO ns j).length
  · rw [if_pos (by rw [e])]
    have lp := m_ahd_loop (d := d) (L := L) (J := J) h ha hj e (QI Q) (nmO ns a).length 0 (by omega)
    rw [nI_0] at lp
    rw [lp]
    have ef : fs (fun k => !(g0 (nmO ns a) k == g0 (nmO ns j) k)) (nmO ns a).length 0 = lcp (nmO ns a) (nmO ns j) := by unfold lcp; rw [show min (nmO ns a).length (nmO ns j).length = (nmO ns a).length by omega]
    rw [ef]
    have key : (if lcp (nmO ns a) (nmO ns j) < (nmO ns a).length then decide (g0 (nmO ns a) (lcp (nmO ns a) (nmO ns j)) < g0 (nmO ns j) (lcp (nmO ns a) (nmO ns j))) else decide (a < j)) = ordP ns j a := by
      unfold ordP cmpR
      rw [if_pos e]
      by_cases c : lcp (nmO ns a) (nmO ns j) < (nmO ns a).length
      · have x1 := m6 h ha c
        have x2 := m6 h hj (show lcp (nmO ns a) (nmO ns j) < (nmO ns j).length by omega)
        have st := fs_st (P := fun k => !(g0 (nmO ns a) k == g0 (nmO ns j) k)) (nmO ns a).length 0 (by rw [ef]; omega)
        rw [ef] at st
        have ne : ¬ (nmO ns a).getD (lcp (nmO ns a) (nmO ns j)) 0 = (nmO ns j).getD (lcp (nmO ns a) (nmO ns j)) 0 := fun q => by
          have q : g0 (nmO ns a) (lcp (nmO ns a) (nmO ns j)) = g0 (nmO ns j) (lcp (nmO ns a) (nmO ns j)) := q
          rw [nb_f q] at st; cases st
        rw [if_pos c, gt_lt c, gt_lt (by omega)]
        by_cases c2 : g0 (nmO ns a) (lcp (nmO ns a) (nmO ns j)) < g0 (nmO ns j) (lcp (nmO ns a) (nmO ns j))
        · have c1 : nI ((nmO ns a).getD (lcp (nmO ns a) (nmO ns j)) 0) < nI ((nmO ns j).getD (lcp (nmO ns a) (nmO ns j)) 0) := nI_lt c2 (by omega)
          rw [if_pos c1, decide_eq_true c2, decide_eq_true (Or.inl z3)]
        · have c0 : (nmO ns j).getD (lcp (nmO ns a) (nmO ns j)) 0 ≤ (nmO ns a).getD (lcp (nmO ns a) (nmO ns j)) 0 := Nat.le_of_not_lt c2
          rw [if_neg (nI_nlt c0 (by omega)), if_neg (fun q => ne ((nI_eq (by omega) (by omega)).mp q)), decide_eq_false c2, decide_eq_false (fun q => q.elim z2 (fun q => z4 q.1))]
      · have g1 : gt (nmO ns a) (lcp (nmO ns a) (nmO ns j)) = -9 := by unfold gt; rw [if_neg c]
        have g2 : gt (nmO ns j) (lcp (nmO ns a) (nmO ns j)) = -9 := by unfold gt; rw [if_neg (by omega)]
        rw [if_neg c, g1, g2, if_neg (by decide), if_pos rfl]
        by_cases c2 : a < j
        · rw [decide_eq_true c2, decide_eq_true (Or.inr ⟨rfl, c2⟩)]
        · rw [decide_eq_false c2, decide_eq_false (fun q => q.elim z1 (fun q => c2 q.2))]
    rw [key]
    exact Iff.rfl
  · rw [if_neg (fun q => e ((nI_eq (by omega) (by omega)).mp q))]
    have key : ordP ns j a = decide ((nmO ns a).length < (nmO ns j).length) := by
      unfold ordP cmpR
      rw [if_neg e]
      by_cases c : (nmO ns a).length < (nmO ns j).length
      · rw [if_pos c, decide_eq_true c, decide_eq_true (Or.inl z3)]
      · rw [if_neg c, decide_eq_false c, decide_eq_false (fun q => q.elim z2 (fun q => z4 q.1))]
    rw [key]
    by_cases c : (nmO ns a).length < (nmO ns j).length
    · rw [if_pos (nI_lt c (by omega)), decide_eq_true c]
      exact Iff.rfl
    · rw [if_neg (nI_nlt (by omega) (by omega)), decide_eq_false c]
      exact Iff.rfl
theorem m_order_loop (hm : I 248 0 = nI ns.length) (h : Ml I 249 0 ns ct) {j : Nat} (hj : j < ns.length) (Q : Option Value → Mem → Prop) : ∀ n k s, k + n = ns.length →
    (Wn (d + 2) i_MD_order 14 [(0, .ref 248), (1, .int (nI j)), (2, .int (nI s)), (3, .int (nI k))] [] (mm L I J) Q ↔ Q (some (.int (nI (s + cnt (ordP ns j) n k)))) (mm L I J)) := by
  have h6 := h.2.2.2.1
  have e0 : ∀ s : Nat, nI s + 0 = nI s := fun s => nI_add s 0
  intro n
  induction n with
  | zero =>
    intro k s hk
    rw [H_MD_order_14, mm_C, if_pos CL248, mm_I, hm, if_neg (nI_nlt (by omega) (by omega))]
    rfl
  | succ n ih =>
    intro k s hk
    rw [H_MD_order_14, mm_C, if_pos CL248, mm_I, hm, if_pos (nI_lt (by omega) (by omega)), if_pos CL248, m_ahd h (by omega) hj, e0, nI_1, nI_1, ih (k + 1) _ (by omega), ih (k + 1) _ (by omega)]
    cases e : ordP ns j k with
    | true => rw [if_neg (by decide), cnt_t e, Nat.add_assoc]
    | false => rw [if_pos (by rfl), cnt_f e]
theorem m_orderN (h : MdR I J ns ct ps im tx tr) {x : Int32} (hx : x < 0 ∨ nI ns.length ≤ x) (Q : Int32 → Mem → Prop) : WI (d + 2) i_MD_order [.ref 248, .int x] (mm L I J) Q ↔ Q (-1) (mm L I J) := by
  rw [E_MD_order, mm_C, if_pos CL248, m_herdN h hx, if_pos rfl]
theorem m_orderY (h : MdR I J ns ct ps im tx tr) {j : Nat} (hj : j < ns.length) (Q : Int32 → Mem → Prop) : WI (d + 2) i_MD_order [.ref 248, .int (nI j)] (mm L I J) Q ↔ Q (nI (cnt (ordP ns j) ns.length 0)) (mm L I J) := by
  have := m_order_loop (d := d) (L := L) (J := J) h.1 h.2.1 hj (QI Q) ns.length 0 0 (by omega)
  rw [nI_0, Nat.zero_add] at this
  rw [E_MD_order, mm_C, if_pos CL248, m_herdY h hj, if_neg i10]
  exact this
end MD18
