/-! ===== kinds, pulls ===== -/
def rateD : Nat → Int64
  | 0 => 1
  | 1 => 11
  | 2 => 101
  | 3 => 1011
  | 4 => 10101
  | _ => 100001
def rateV (ns : List (List Nat)) (j : Nat) : Nat → Int32
  | 0 => nI (nmO ns j).length
  | 1 => nI (nmO ns j).length + nI (las (nmO ns j))
  | 2 => nI (nmO ns j).length - nI (pop (likN ns j))
  | 3 => 2 * (nI (nmO ns j).length + nI (las (nmO ns j)))
  | 4 => nI (nmO ns j).length - nI (pop (likN ns j)) + nI j
  | _ => nI (nmO ns j).length + nI (roo (nmO ns j))
theorem toI_neg {y : Int32} (h : y < 0) : Int32.toInt y < 0 := by
  rw [Int32.lt_iff_toInt_lt] at h
  exact h
theorem toI_gt {y : Int32} {c : Nat} (hc : c < 2 ^ 31) (h : nI c < y) : (c : Int) < Int32.toInt y := by
  rw [Int32.lt_iff_toInt_lt, nI_toInt hc] at h
  exact h
section RT
variable {d L : Nat} {I : Nat → Nat → Int32} {J : Nat → Nat → Int64} {ns : List (List Nat)} {ct : List Nat} {ps : List Cp} {im : Nat → Option Cp} {tx : List Nat} {tr : Int64}
theorem k_rateV (h : ClR I J ns ct ps im tx tr) {j : Nat} (hj : j < ns.length) {c : Nat} (hc : c < 6) (Q : Int32 → Mem → Prop) : WI (d + 6) i_KN_rate [.ref 0, .int (nI c), .int (nI j)] (mm L I J) Q ↔ Q (rateV ns j c) (mm L I (up2 J 0 11 (tr + rateD c))) := by
  rw [k_rateY h hj]
  have a1 : tr + 10 + 1 = tr + 11 := by rw [Int64.add_assoc]; rfl
  have a2 : tr + 100 + 1 = tr + 101 := by rw [Int64.add_assoc]; rfl
  have a3 : tr + 1000 + 10 + 1 = tr + 1011 := by rw [Int64.add_assoc, Int64.add_assoc]; rfl
  have a4 : tr + 10000 + 100 + 1 = tr + 10101 := by rw [Int64.add_assoc, Int64.add_assoc]; rfl
  have a5 : tr + 100000 + 1 = tr + 100001 := by rw [Int64.add_assoc]; rfl
  rw [a1, a2, a3, a4, a5]
  rcases (show c = 0 ∨ c = 1 ∨ c = 2 ∨ c = 3 ∨ c = 4 ∨ c = 5 by omega) with rfl | rfl | rfl | rfl | rfl | rfl
  · rw [if_pos (by decide)]; exact Iff.rfl
  · rw [if_neg (by decide), if_pos (by decide)]; exact Iff.rfl
  · rw [if_neg (by decide), if_neg (by decide), if_pos (by decide)]; exact Iff.rfl
  · rw [if_neg (by decide), if_neg (by decide), if_neg (by decide), if_pos (by decide)]; exact Iff.rfl
  · rw [if_neg (by decide), if_neg (by decide), if_neg (by decide), if_neg (by decide), if_pos (by decide)]; exact Iff.rfl
  · rw [if_neg (by decide), if_neg (by decide), if_neg (by decide), if_neg (by decide), if_neg (by decide), if_pos (by decide)]; exact Iff.rfl
theorem toI_out {y : Int32} {b : Nat} {c : Int} (hb : b < 100 ∧ 0 ≤ c) (hy : y < 0 ∨ nI b < y) (hc : c ≤ b) : ¬ Int32.toInt y = c := by
  intro q
  rcases hy with h | h
  · have := toI_neg h; omega
  · have := toI_gt (by omega) h; omega
theorem k_rateN3 (h : ClR I J ns ct ps im tx tr) {j : Nat} (hj : j < ns.length) {y : Int32} (hy : y < 0 ∨ nI 5 < y) (Q : Int32 → Mem → Prop) : WI (d + 6) i_KN_rate [.ref 0, .int y, .int (nI j)] (mm L I J) Q ↔ Q (-1000000) (mm L I J) := by
  rw [k_rateY h hj, if_neg (toI_out (c := 0) (by omega) hy (by omega)), if_neg (toI_out (c := 1) (by omega) hy (by omega)), if_neg (toI_out (c := 2) (by omega) hy (by omega)), if_neg (toI_out (c := 3) (by omega) hy (by omega)), if_neg (toI_out (c := 4) (by omega) hy (by omega)), if_neg (toI_out (c := 5) (by omega) hy (by omega))]
theorem m_rateN (h : MdR I J ns ct ps im tx tr) {x y : Int32} (hx : x < 0 ∨ nI ns.length ≤ x) (Q : Int32 → Mem → Prop) : WI (d + 2) i_MD_rate [.ref 248, .int y, .int x] (mm L I J) Q ↔ Q (-1000000) (mm L I J) := by
  rw [E_MD_rate, q0, q5, m_in]
  by_cases c : 0 ≤ y ∧ y ≤ 5
  · rw [decide_eq_true c, if_neg (by decide), mm_C, if_pos CL248, m_herdN h hx, if_pos rfl]
  · rw [decide_eq_false c, if_pos (by rfl)]
theorem m_rateN3 {x y : Int32} {M : Mem} (hy : y < 0 ∨ nI 5 < y) (Q : Int32 → Mem → Prop) : WI (d + 2) i_MD_rate [.ref 248, .int y, .int x] M Q ↔ Q (-1000000) M := by
  have hy : y < 0 ∨ 5 < y := hy
  rw [E_MD_rate, q0, q5, m_in, nw_12 hy, if_pos (by rfl)]
theorem m_rateV (h : MdR I J ns ct ps im tx tr) {j : Nat} (hj : j < ns.length) {c : Nat} (hc : c < 6) (Q : Int32 → Mem → Prop) : WI (d + 4) i_MD_rate [.ref 248, .int (nI c), .int (nI j)] (mm L I J) Q ↔ Q (rateV ns j c) (mm L I (up2 J 248 8 (tr + rateD c))) := by
  have h6 := h.2.1.2.2.2.1
  have lj := mle h.2.1 hj
  have t := h.2.2.2.2.2
  obtain ⟨k1, k2, k3⟩ := lik_N h6 hj
  have hc5 : nI c ≤ nI 5 := nI_le (by omega) (by omega)
  have hc5 : nI c ≤ 5 := hc5
  have a1 : tr + 1 + 10 = tr + 11 := by rw [Int64.add_assoc]; rfl
  have a2 : tr + 1 + 100 = tr + 101 := by rw [Int64.add_assoc]; rfl
  have a3 : tr + 1 + 1010 = tr + 1011 := by rw [Int64.add_assoc]; rfl
  have a4 : tr + 1 + 10100 = tr + 10101 := by rw [Int64.add_assoc]; rfl
  have a5 : tr + 1 + 100000 = tr + 100001 := by rw [Int64.add_assoc]; rfl
  rw [E_MD_rate, q0, q5, m_in, within_Y (nI_pos' (by omega)) hc5, if_neg (by decide), mm_C, if_pos CL248, m_herdY h hj, if_neg i10, e13]
  simp only [mm_C, mm_R, mm_L, mm_I, mm_sI, CL248, CL249, CL250, CL251, CL252, CL253, CL254, CL255, CL256, CL257, CL258, CL259, CL260, CL261, RR248_1, RR248_2, RR248_4, RR248_5, RR248_6, RR248_9, RR248_11, RR248_13, RR248_14, RR248_15, RR248_16, RR248_17, RR248_19, n249, n250, n251, n252, n253, n254, n255, n256, n257, n258, n259, n260, n261, LN249, LN250, LN251, LN252, LN253, LN254, LN255, LN256, LN257, LN258, LN259, LN260, LN261, ↓reduceIte]
  rw [if_pos (ok13 (by omega)), mlen h.2.1 hj]
  by_cases z : (nmO ns j).length = 0
  · have el : las (nmO ns j) = 0 := by unfold las; rw [if_pos z]
    have e0 : ∀ x : Int32, x + 0 = x + nI (las (nmO ns j)) := fun x => by rw [el, nI_0]
    rw [if_pos ((nI_z (by omega)).mpr z), m_alikeOf h.1 h.2.1 hj, k1, m_bits k2]
    simp only [mm_C, CL248, mm_J, mm_sJ, t, up2_same, up2_up2, a1, a2, a3, a4, a5, ↓reduceIte]
    rw [m_rootOf h.2.1 hj, e0]
    rcases (show c = 0 ∨ c = 1 ∨ c = 2 ∨ c = 3 ∨ c = 4 ∨ c = 5 by omega) with rfl | rfl | rfl | rfl | rfl | rfl
    · rw [if_neg (by decide), if_neg (by decide), if_neg (by decide), if_neg (by decide), if_neg (by decide)]; exact Iff.rfl
    · rw [if_pos (by decide)]; exact Iff.rfl
    · rw [if_neg (by decide), if_pos (by decide)]; exact Iff.rfl
    · rw [if_neg (by decide), if_neg (by decide), if_pos (by decide)]; exact Iff.rfl
    · rw [if_neg (by decide), if_neg (by decide), if_neg (by decide), if_pos (by decide)]; exact Iff.rfl
    · rw [if_neg (by decide), if_neg (by decide), if_neg (by decide), if_neg (by decide), if_pos (by decide)]; exact Iff.rfl
  · have el : las (nmO ns j) = (nmO ns j).getD ((nmO ns j).length - 1) 0 := by unfold las; rw [if_neg z]
    rw [if_neg (fun q => z ((nI_z (by omega)).mp q)), nI_m1 (by omega), m_turnAt h.2.1 hj (by omega), mm_C, if_pos CL248, m_alikeOf h.1 h.2.1 hj, k1, m_bits k2, ← el]
    simp only [mm_C, CL248, mm_J, mm_sJ, t, up2_same, up2_up2, a1, a2, a3, a4, a5, ↓reduceIte]
    rw [m_rootOf h.2.1 hj]
    rcases (show c = 0 ∨ c = 1 ∨ c = 2 ∨ c = 3 ∨ c = 4 ∨ c = 5 by omega) with rfl | rfl | rfl | rfl | rfl | rfl
    · rw [if_neg (by decide), if_neg (by decide), if_neg (by decide), if_neg (by decide), if_neg (by decide)]; exact Iff.rfl
    · rw [if_pos (by decide)]; exact Iff.rfl
    · rw [if_neg (by decide), if_pos (by decide)]; exact Iff.rfl
    · rw [if_neg (by decide), if_neg (by decide), if_pos (by decide)]; exact Iff.rfl
    · rw [if_neg (by decide), if_neg (by decide), if_neg (by decide), if_pos (by decide)]; exact Iff.rfl
    · rw [if_neg (by decide), if_neg (by decide), if_neg (by decide), if_neg (by decide), if_pos (by decide)]; exact Iff.rfl
theorem MdR_J (h : MdR I J ns ct ps im tx tr) (v : Int64) : MdR I (up2 J 248 8 v) ns ct ps im tx v := ⟨h.1, h.2.1, h.2.2.1, h.2.2.2.1, h.2.2.2.2.1, up2_same _ _ _ _⟩
theorem mct (h : Ml I 249 0 ns ct) {k : Nat} (hk : k < ct.length) : I 249 (1 + k) = nI (ct.getD k 0) ∧ ct.getD k 0 < 6 := by
  have := h.2.2.1.1 k hk
  rw [Nat.zero_add] at this
  exact ⟨this, Sg_6 h.2.2.1 hk⟩
theorem m_mend_in (h : Ml I 249 0 ns ct) {f w t : Nat} (ht : t = f + w) (htn : t ≤ ct.length) (hI : ∀ a b, a ≤ b → b - a < w → b ≤ ct.length → I 258 (13 * a + b) = nI (mp ct a b)) (Q : Option Value → Mem → Prop) : ∀ m k s, (k + m = t ∨ (m = 0 ∧ t ≤ k)) → f < k → k ≤ f + 1 + w → s ≤ 100 →
    (Wn d i_MD_mend 58 [(0, .ref 248), (1, .int (nI ct.length)), (2, .int (nI w)), (3, .int (nI f)), (4, .int (nI t)), (5, .int (nI s)), (6, .int (nI k))] [] (mm L I J) Q ↔ Wn d i_MD_mend 16 [(0, .ref 248), (1, .int (nI ct.length)), (2, .int (nI w)), (3, .int (nI (f + 1)))] [] (mm L (up2 I 258 (13 * f + t) (nI (mpK (mp ct) ct f t m k s))) J) Q) := by
  have c12 := h.2.1
  have e13m : ∀ x : Nat, (13 : Int32) * nI x = nI (13 * x) := fun x => pk_mul 13 x
  have e1p : ∀ x : Nat, (1 : Int32) + nI x = nI (1 + x) := fun x => nI_add 1 x
  intro m
  induction m with
  | zero =>
    intro k s hk hf hk2 hs
    rw [H_MD_mend_58, if_neg (nI_nlt (by omega) (by omega)), e13m, nI_add, nI_1 f]
    simp only [mm_C, mm_R, mm_L, mm_I, mm_sI, CL248, CL249, CL250, CL251, CL252, CL253, CL254, CL255, CL256, CL257, CL258, CL259, CL260, CL261, RR248_1, RR248_2, RR248_4, RR248_5, RR248_6, RR248_9, RR248_11, RR248_13, RR248_14, RR248_15, RR248_16, RR248_17, RR248_19, n249, n250, n251, n252, n253, n254, n255, n256, n257, n258, n259, n260, n261, LN249, LN250, LN251, LN252, LN253, LN254, LN255, LN256, LN257, LN258, LN259, LN260, LN261, ↓reduceIte]
    rw [if_pos ⟨trivial, inb_nI (by omega) (by omega)⟩, ix_nI (by omega)]
    rfl
  | succ m ih =>
    intro k s hk hf hk2 hs
    obtain ⟨y1, y2⟩ := mct h (show k < ct.length by omega)
    obtain ⟨y3, y4⟩ := mct h (show f < ct.length by omega)
    have y5 := x1_lt y4
    have m1 := mp_le ct 20 (f + 1) k (by omega)
    have m2 := mp_le ct 20 (k + 1) t (by omega)
    have i1 : I 258 (13 * (f + 1) + k) = nI (mp ct (f + 1) k) := hI _ _ (by omega) (by omega) (by omega)
    have i2 : I 258 (13 * (k + 1) + t) = nI (mp ct (k + 1) t) := hI _ _ (by omega) (by omega) (by omega)
    have ns0 : ¬ nI s < 0 := nI_nn (by omega)
    rw [H_MD_mend_58, if_pos (nI_lt (by omega) (by omega)), e1p, e1p, nI_1 f, nI_1 k, e13m, e13m, nI_add, nI_add]
    simp only [mm_C, mm_R, mm_L, mm_I, mm_sI, CL248, CL249, CL250, CL251, CL252, CL253, CL254, CL255, CL256, CL257, CL258, CL259, CL260, CL261, RR248_1, RR248_2, RR248_4, RR248_5, RR248_6, RR248_9, RR248_11, RR248_13, RR248_14, RR248_15, RR248_16, RR248_17, RR248_19, n249, n250, n251, n252, n253, n254, n255, n256, n257, n258, n259, n260, n261, LN249, LN250, LN251, LN252, LN253, LN254, LN255, LN256, LN257, LN258, LN259, LN260, LN261, ↓reduceIte, i10, ns0]
    rw [if_pos (show rdI 10 ∧ inb (nI (1 + k)) 91 from ⟨by decide, inb_nI (by omega) (by omega)⟩), if_pos (show rdI 10 ∧ inb (nI (1 + f)) 91 from ⟨by decide, inb_nI (by omega) (by omega)⟩), if_pos (show rdI 10 ∧ inb (nI (13 * (f + 1) + k)) 169 from ⟨by decide, inb_nI (by omega) (by omega)⟩), if_pos (show rdI 10 ∧ inb (nI (13 * (k + 1) + t)) 169 from ⟨by decide, inb_nI (by omega) (by omega)⟩), ix_nI (show 1 + k < 2 ^ 31 by omega), ix_nI (show 1 + f < 2 ^ 31 by omega), ix_nI (show 13 * (f + 1) + k < 2 ^ 31 by omega), ix_nI (show 13 * (k + 1) + t < 2 ^ 31 by omega), y1, y3, nI_x1 y4, i1, i2, e1p, nI_add, ih (k + 1) s (by omega) (by omega) (by omega) hs, ih (k + 1) _ (by omega) (by omega) (by omega) (by omega)]
    have eK : mpK (mp ct) ct f t (m + 1) k s = mpK (mp ct) ct f t m (k + 1) (if g0 ct k = g0 ct f ^^^ 1 then max s (1 + mp ct (f + 1) k + mp ct (k + 1) t) else s) := rfl
    rw [eK]
    by_cases e : ct.getD k 0 = ct.getD f 0 ^^^ 1
    · have e1 : g0 ct k = g0 ct f ^^^ 1 := e
      rw [if_pos (by rw [e]), if_pos e1]
      by_cases c : s < 1 + mp ct (f + 1) k + mp ct (k + 1) t
      · rw [if_pos (nI_lt c (by omega)), Nat.max_eq_right (by omega)]
      · rw [if_neg (nI_nlt (by omega) (by omega)), Nat.max_eq_left (by omega)]
    · have e1 : ¬ g0 ct k = g0 ct f ^^^ 1 := e
      rw [if_neg (fun q => e ((nI_eq (by omega) (by omega)).mp q)), if_neg e1]
end RT
section RT2
variable {d L : Nat} {J : Nat → Nat → Int64} {ns : List (List Nat)} {ct : List Nat}
theorem m_mend_mid {w : Nat} (hw : w ≤ ct.length) (Q : Option Value → Mem → Prop) : ∀ (m f : Nat) (I : Nat → Nat → Int32), f + w + m = ct.length + 1 → Ml I 249 0 ns ct → (∀ a b, a ≤ b → b - a < w → b ≤ ct.length → I 258 (13 * a + b) = nI (mp ct a b)) → (∀ a, a < f → I 258 (13 * a + (a + w)) = nI (mp ct a (a + w))) → (∀ I', (∀ a b, a ≤ b → b - a < w + 1 → b ≤ ct.length → I' 258 (13 * a + b) = nI (mp ct a b)) → (∀ x, x ≠ 258 → I' x = I x) → Wn d i_MD_mend 9 [(0, .ref 248), (1, .int (nI ct.length)), (2, .int (nI (w + 1)))] [] (mm L I' J) Q) →
    Wn d i_MD_mend 16 [(0, .ref 248), (1, .int (nI ct.length)), (2, .int (nI w)), (3, .int (nI f))] [] (mm L I J) Q := by
  have e13m : ∀ x : Nat, (13 : Int32) * nI x = nI (13 * x) := fun x => pk_mul 13 x
  intro m
  induction m with
  | zero =>
    intro f I hf h hI hR hQ
    have c12 := h.2.1
    rw [H_MD_mend_16, nI_add, if_pos (nI_lt (by omega) (by omega)), nI_1]
    refine hQ I (fun a b h1 h2 h3 => ?_) (fun _ _ => rfl)
    by_cases e : b - a < w
    · exact hI a b h1 e h3
    · have := hR a (by omega)
      rw [show b = a + w by omega]
      exact this
  | succ m ih =>
    intro f I hf h hI hR hQ
    have c12 := h.2.1
    have fin : ∀ s, s ≤ 100 → (mpK (mp ct) ct f (f + w) (w - 1) (f + 1) s = mp ct f (f + w)) → Wn d i_MD_mend 58 [(0, .ref 248), (1, .int (nI ct.length)), (2, .int (nI w)), (3, .int (nI f)), (4, .int (nI (f + w))), (5, .int (nI s)), (6, .int (nI (f + 1)))] [] (mm L I J) Q := fun s hs hmp => by
      refine (m_mend_in h rfl (by omega) hI Q (w - 1) (f + 1) s (by omega) (by omega) (by omega) hs).mpr ?_
      rw [hmp]
      refine ih (f + 1) _ (by omega) (Ml_fr (up2_ne _ _ _ (by omega)) h) (fun a b h1 h2 h3 => ?_) (fun a ha => ?_) (fun I' g1 g2 => hQ I' g1 (fun x hx => by rw [g2 x hx, up2_ne _ _ _ hx]))
      · rw [up2_other _ _ _ (by omega)]
        exact hI a b h1 h2 h3
      · by_cases e : a = f
        · rw [e, up2_same]
        · rw [up2_other _ _ _ (by omega)]
          exact hR a (by omega)
    rw [H_MD_mend_16, nI_add, if_neg (nI_nlt (by omega) (by omega)), nI_1]
    by_cases w2 : w < 2
    · have v2 : nI w < nI 2 := nI_lt w2 (by omega)
      have v2 : nI w < 2 := v2
      rw [if_pos v2]
      refine fin 0 (by omega) ?_
      rcases (show w = 0 ∨ w = 1 by omega) with e | e
      · rw [e, Nat.add_zero, mp_0 ct (Nat.le_refl _)]
        rfl
      · rw [e, mp_r ct (show f < f + 1 by omega), mp_0 ct (Nat.le_refl _), show f + 1 - f - 1 = 0 by omega]
    · have v2 : ¬ nI w < nI 2 := nI_nlt (by omega) (by omega)
      have v2 : ¬ nI w < 2 := v2
      have i1 : I 258 (13 * (f + 1) + (f + w)) = nI (mp ct (f + 1) (f + w)) := hI _ _ (by omega) (by omega) (by omega)
      have m1 := mp_le ct 20 (f + 1) (f + w) (by omega)
      rw [if_neg v2, e13m, nI_add]
      simp only [mm_C, mm_R, mm_L, mm_I, mm_sI, CL248, CL249, CL250, CL251, CL252, CL253, CL254, CL255, CL256, CL257, CL258, CL259, CL260, CL261, RR248_1, RR248_2, RR248_4, RR248_5, RR248_6, RR248_9, RR248_11, RR248_13, RR248_14, RR248_15, RR248_16, RR248_17, RR248_19, n249, n250, n251, n252, n253, n254, n255, n256, n257, n258, n259, n260, n261, LN249, LN250, LN251, LN252, LN253, LN254, LN255, LN256, LN257, LN258, LN259, LN260, LN261, ↓reduceIte]
      rw [if_pos ⟨by decide, inb_nI (by omega) (by omega)⟩, ix_nI (by omega), i1]
      refine fin _ (by omega) ?_
      rw [mp_r ct (show f < f + w by omega), show f + w - f - 1 = w - 1 by omega]
theorem m_mend_out (Q : Option Value → Mem → Prop) : ∀ (m w : Nat) (I : Nat → Nat → Int32), w + m = ct.length + 1 → Ml I 249 0 ns ct → (∀ a b, a ≤ b → b - a < w → b ≤ ct.length → I 258 (13 * a + b) = nI (mp ct a b)) → (∀ I', (∀ x, x ≠ 258 → I' x = I x) → Q (some (.int (nI ct.length - 2 * nI (mp ct 0 ct.length)))) (mm L I' J)) →
    Wn d i_MD_mend 9 [(0, .ref 248), (1, .int (nI ct.length)), (2, .int (nI w))] [] (mm L I J) Q := by
  intro m
  induction m with
  | zero =>
    intro w I hw h hI hQ
    have c12 := h.2.1
    have i1 := hI 0 ct.length (by omega) (by omega) (by omega)
    rw [Nat.mul_zero, Nat.zero_add] at i1
    rw [H_MD_mend_9, if_pos (nI_lt (by omega) (by omega))]
    simp only [mm_C, mm_R, mm_L, mm_I, mm_sI, CL248, CL249, CL250, CL251, CL252, CL253, CL254, CL255, CL256, CL257, CL258, CL259, CL260, CL261, RR248_1, RR248_2, RR248_4, RR248_5, RR248_6, RR248_9, RR248_11, RR248_13, RR248_14, RR248_15, RR248_16, RR248_17, RR248_19, n249, n250, n251, n252, n253, n254, n255, n256, n257, n258, n259, n260, n261, LN249, LN250, LN251, LN252, LN253, LN254, LN255, LN256, LN257, LN258, LN259, LN260, LN261, ↓reduceIte]
    rw [if_pos ⟨by decide, inb_nI (by omega) (by omega)⟩, ix_nI (by omega), i1]
    exact hQ I (fun _ _ => rfl)
  | succ m ih =>
    intro w I hw h hI hQ
    have c12 := h.2.1
    rw [H_MD_mend_9, if_neg (nI_nlt (by omega) (by omega))]
    have := m_mend_mid (d := d) (L := L) (J := J) (ns := ns) (ct := ct) (w := w) (by omega) Q (ct.length + 1 - w) 0 I (by omega) h hI (fun a ha => absurd ha (Nat.not_lt_zero a)) (fun I' g1 g2 => ih (w + 1) I' (by omega) (Ml_fr (g2 249 (by omega)) h) g1 (fun I'' f1 => hQ I'' (fun x hx => by rw [f1 x hx, g2 x hx])))
    rw [nI_0] at this
    exact this
theorem m_mend {I : Nat → Nat → Int32} (h : Ml I 249 0 ns ct) (Q : Int32 → Mem → Prop) (hQ : ∀ I', (∀ x, x ≠ 258 → I' x = I x) → Q (nI ct.length - 2 * nI (mp ct 0 ct.length)) (mm L I' J)) : WI d i_MD_mend [.ref 248] (mm L I J) Q := by
  have z1 : I 249 0 = nI ct.length := h.1
  rw [E_MD_mend]
  simp only [mm_C, mm_R, mm_L, mm_I, mm_sI, CL248, CL249, CL250, CL251, CL252, CL253, CL254, CL255, CL256, CL257, CL258, CL259, CL260, CL261, RR248_1, RR248_2, RR248_4, RR248_5, RR248_6, RR248_9, RR248_11, RR248_13, RR248_14, RR248_15, RR248_16, RR248_17, RR248_19, n249, n250, n251, n252, n253, n254, n255, n256, n257, n258, n259, n260, n261, LN249, LN250, LN251, LN252, LN253, LN254, LN255, LN256, LN257, LN258, LN259, LN260, LN261, ↓reduceIte, z0, z1]
  rw [if_pos ok0]
  have := m_mend_out (d := d) (L := L) (J := J) (QI Q) (ct.length + 1) 0 I (by omega) h (fun a b _ h2 _ => absurd h2 (Nat.not_lt_zero _)) hQ
  rw [nI_0] at this
  exact this
theorem m_tieCt {I : Nat → Nat → Int32} (h : Ml I 249 0 ns ct) (Q : Mem → Prop) (hQ : ∀ I', Cd I' (tieAll [] ct) → FrK I I' → Q (mm L I' J)) : WV (d + 2) i_MD_tieContract [.ref 248] (mm L I J) Q := by
  have c12 := h.2.1
  have h1 := Ml_K h (FrK_0 (I := I) (v := 0))
  have z1 : up2 I 248 10 0 249 0 = nI ct.length := h1.1
  have s1 : Sg (up2 I 248 10 0) 249 1 ct := h1.2.2.1
  rw [E_MD_tieContract]
  simp only [mm_C, mm_R, mm_L, mm_I, mm_sI, CL248, CL249, CL250, CL251, CL252, CL253, CL254, CL255, CL256, CL257, CL258, CL259, CL260, CL261, RR248_1, RR248_2, RR248_4, RR248_5, RR248_6, RR248_9, RR248_11, RR248_13, RR248_14, RR248_15, RR248_16, RR248_17, RR248_19, n249, n250, n251, n252, n253, n254, n255, n256, n257, n258, n259, n260, n261, LN249, LN250, LN251, LN252, LN253, LN254, LN255, LN256, LN257, LN258, LN259, LN260, LN261, ↓reduceIte, z0, z1]
  rw [if_pos ok0]
  exact m_tieRow (f := 1) (by omega) s1 Cd_0 (by rw [List.length_nil]; omega) _ (fun I' g1 g2 => hQ I' g1 (FrK_tr FrK_0 g2))
end RT2
section RT3
variable {d L : Nat} {I : Nat → Nat → Int32} {J : Nat → Nat → Int64} {ns : List (List Nat)} {ct : List Nat} {ps : List Cp} {im : Nat → Option Cp} {tx : List Nat} {tr : Int64}
theorem pulA_N {y : Int32} (hy : y < 0 ∨ nI 3 < y) : pulA ct y = -1 := by
  unfold pulA
  rw [if_neg (toI_out (c := 0) (by omega) hy (by omega)), if_neg (toI_out (c := 1) (by omega) hy (by omega)), if_neg (toI_out (c := 2) (by omega) hy (by omega)), if_neg (toI_out (c := 3) (by omega) hy (by omega))]
theorem m_pullsN {y : Int32} {M : Mem} (hy : y < 0 ∨ nI 3 < y) (Q : Int32 → Mem → Prop) : WI (d + 1) i_MD_pulls [.ref 248, .int y] M Q ↔ Q (-1) M := by
  have hy : y < 0 ∨ 3 < y := hy
  rw [E_MD_pulls, q0, q3, m_in, nw_12 hy, if_pos (by rfl)]
theorem m_pullsY (h : MdR I J ns ct ps im tx tr) {c : Nat} (hc : c < 4) (Q : Int32 → Mem → Prop) (hQ : ∀ I', MdR I' J ns ct ps im tx tr → FrR 248 262 I I' → Q (pulA ct (nI c)) (mm L I' J)) : WI (d + 3) i_MD_pulls [.ref 248, .int (nI c)] (mm L I J) Q := by
  have hc3 : nI c ≤ nI 3 := nI_le (by omega) (by omega)
  have hc3 : nI c ≤ 3 := hc3
  rw [E_MD_pulls, q0, q3, m_in, within_Y (nI_pos' (by omega)) hc3, if_neg (by decide)]
  simp only [mm_C, mm_R, mm_L, mm_I, mm_sI, CL248, CL249, CL250, CL251, CL252, CL253, CL254, CL255, CL256, CL257, CL258, CL259, CL260, CL261, RR248_1, RR248_2, RR248_4, RR248_5, RR248_6, RR248_9, RR248_11, RR248_13, RR248_14, RR248_15, RR248_16, RR248_17, RR248_19, n249, n250, n251, n252, n253, n254, n255, n256, n257, n258, n259, n260, n261, LN249, LN250, LN251, LN252, LN253, LN254, LN255, LN256, LN257, LN258, LN259, LN260, LN261, ↓reduceIte]
  refine m_tieCt h.2.1 _ (fun I1 g1 g2 => ?_)
  have h1 := MdR_sc h (FrM_K g2)
  have F1 := FrM_R (FrM_K g2)
  have z1 : I1 249 0 = nI ct.length := h1.2.1.1
  have hq := hQ I1 h1 F1
  unfold pulA at hq
  simp only [mm_C, mm_R, mm_L, mm_I, mm_sI, CL248, CL249, CL250, CL251, CL252, CL253, CL254, CL255, CL256, CL257, CL258, CL259, CL260, CL261, RR248_1, RR248_2, RR248_4, RR248_5, RR248_6, RR248_9, RR248_11, RR248_13, RR248_14, RR248_15, RR248_16, RR248_17, RR248_19, n249, n250, n251, n252, n253, n254, n255, n256, n257, n258, n259, n260, n261, LN249, LN250, LN251, LN252, LN253, LN254, LN255, LN256, LN257, LN258, LN259, LN260, LN261, ↓reduceIte, g1.1, z0, z1]
  rw [if_pos ok0]
  rcases (show c = 0 ∨ c = 1 ∨ c = 2 ∨ c = 3 by omega) with rfl | rfl | rfl | rfl
  · rw [if_pos (by decide)] at hq ⊢
    rw [← pif (Q := Q)]
    exact hq
  · rw [if_neg (by decide), if_pos (by decide)] at hq ⊢
    exact hq
  · rw [if_neg (by decide), if_neg (by decide), if_pos (by decide)]
    refine m_mend h1.2.1 _ (fun I2 f1 => ?_)
    have F2 : FrM I1 I2 := ⟨fun a p => f1 a (by omega), fun k p => by rw [f1 248 (by omega)]⟩
    have hq2 := hQ I2 (MdR_sc h1 F2) (FrR_tr F1 (FrM_R F2))
    unfold pulA at hq2
    rw [if_neg (by decide), if_neg (by decide), if_pos (by decide)] at hq2
    exact hq2
  · rw [if_neg (by decide), if_neg (by decide), if_neg (by decide), if_pos (by decide)] at hq
    rw [if_neg (by decide), if_neg (by decide), if_neg (by decide)]
    exact hq
end RT3
