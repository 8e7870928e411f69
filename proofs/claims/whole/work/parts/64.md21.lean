/-! ===== the model: new names ===== -/
theorem spl_at (q : Nat) : ∀ n k, k < n → (spl q n).getD k 0 = q / 6 ^ (n - 1 - k) % 6 := by
  intro n
  induction n with
  | zero => intro k h; exact absurd h (Nat.not_lt_zero k)
  | succ n ih =>
    intro k h
    cases k with
    | zero => show q / 6 ^ n % 6 = _; rw [show n + 1 - 1 - 0 = n by omega]
    | succ k =>
      show (spl q n).getD k 0 = _
      rw [ih k (by omega), show n + 1 - 1 - (k + 1) = n - 1 - k by omega]
theorem spl_6 (q n k : Nat) (h : k < n) : (spl q n).getD k 0 < 6 := by rw [spl_at q n k h]; exact Nat.mod_lt _ (by omega)
theorem cnt_fs {P : Nat → Bool} {n k : Nat} (h : cnt P n k ≠ 0) : fs P n k < k + n ∧ P (fs P n k) = true := by
  have h1 := fs_le P n k
  have h2 : fs P n k ≠ k + n := fun q => h ((cnt_0 n k).mpr ((fs_all n k).mp q))
  have h3 : fs P n k < k + n := by omega
  exact ⟨h3, fs_st n k h3⟩
/-- the model's told row -/
def Td (I : Nat → Nat → Int32) (t : List Nat) : Prop := ∀ k, k < t.length → I 257 k = nI (t.getD k 0)
/-- only the told row changes -/
def FrT (I I' : Nat → Nat → Int32) : Prop := ∀ a, a ≠ 257 → I' a = I a
theorem FrT_M {I I' : Nat → Nat → Int32} (h : FrT I I') : FrM I I' := ⟨fun a p => h a (by omega), fun k p => by rw [h 248 (by omega)]⟩
section MD21
variable {d L : Nat} {J : Nat → Nat → Int64} {ns : List (List Nat)} {ct : List Nat}
theorem m_new8 {n D q : Nat} (hn : n ≤ 4) (hq : q < 2 ^ 31) (Q : Option Value → Mem → Prop) : ∀ (k : Nat) (I : Nat → Nat → Int32), k ≤ n → (∀ i, k ≤ i → i < n → I 257 i = nI ((spl q n).getD i 0)) → (∀ I' r, Td I' (spl q n) → FrT I I' → Wn (d + 1) i_MD_isNew 44 [(0, .ref 248), (1, .int (nI n)), (2, .int (nI D)), (3, .int (nI q)), (4, .int r), (5, .int 1), (6, .int 1)] [] (mm L I' J) Q) →
    Wn (d + 1) i_MD_isNew 8 [(0, .ref 248), (1, .int (nI n)), (2, .int (nI D)), (3, .int (nI q)), (4, .int (nI (q / 6 ^ (n - k)))), (5, .int (nI k + (-1)))] [] (mm L I J) Q := by
  have e6 : (6 : Int32) = nI 6 := by decide
  intro k
  induction k with
  | zero =>
    intro I hk hI hQ
    rw [H_MD_isNew_8, if_pos (by decide)]
    exact hQ I _ (fun i hi => hI i (Nat.zero_le _) (by rw [spl_len] at hi; exact hi)) (fun _ _ => rfl)
  | succ k ih =>
    intro I hk hI hQ
    have p3 : q / 6 ^ (n - (k + 1)) ≤ q := Nat.div_le_self _ _
    have e1 : q / 6 ^ (n - (k + 1)) / 6 = q / 6 ^ (n - k) := by rw [Nat.div_div_eq_div_mul, ← Nat.pow_succ, show (n - (k + 1)).succ = n - k by omega]
    have e2 : q / 6 ^ (n - (k + 1)) % 6 = (spl q n).getD k 0 := by rw [spl_at q n k (by omega), show n - 1 - k = n - (k + 1) by omega]
    rw [nI_dec, H_MD_isNew_8, if_neg (nI_nn (by omega)), e6, pk_rem (by omega) (by omega) (by omega), pk_div (by omega) (by omega) (by omega), e1, e2]
    simp only [mm_C, mm_R, mm_L, mm_I, mm_sI, CL248, CL249, CL250, CL251, CL252, CL253, CL254, CL255, CL256, CL257, CL258, CL259, CL260, CL261, RR248_1, RR248_2, RR248_4, RR248_5, RR248_6, RR248_9, RR248_11, RR248_13, RR248_14, RR248_15, RR248_16, RR248_17, RR248_19, n249, n250, n251, n252, n253, n254, n255, n256, n257, n258, n259, n260, n261, LN249, LN250, LN251, LN252, LN253, LN254, LN255, LN256, LN257, LN258, LN259, LN260, LN261, ↓reduceIte]
    rw [if_pos ⟨trivial, inb_nI (by omega) (by omega)⟩, ix_nI (by omega)]
    have F : FrT I (up2 I 257 k (nI ((spl q n).getD k 0))) := fun a ha => up2_ne _ _ _ ha
    refine ih _ (by omega) (fun i h1 h2 => ?_) (fun I' r g1 g2 => hQ I' r g1 (fun a ha => by rw [g2 a ha, F a ha]))
    by_cases e : i = k
    · rw [e, up2_same]
    · rw [up2_other _ _ _ e]
      exact hI i (by omega) h2
theorem m_new44 {I : Nat → Nat → Int32} {D : Nat} {t : List Nat} (ht : Td I t) (h6 : ∀ k, k < t.length → t.getD k 0 < 6) (h4 : t.length ≤ 4) (q r : Int32) (Q : Option Value → Mem → Prop) : ∀ m k f, k + m = t.length → 1 ≤ k →
    (Wn (d + 1) i_MD_isNew 44 [(0, .ref 248), (1, .int (nI t.length)), (2, .int (nI D)), (3, .int q), (4, .int r), (5, .int (bI f)), (6, .int (nI k))] [] (mm L I J) Q ↔ Wn (d + 1) i_MD_isNew 92 [(0, .ref 248), (1, .int (nI t.length)), (2, .int (nI D)), (3, .int q), (4, .int r), (5, .int (bI (f && alB (tghP t) m k))), (6, .int 0)] [] (mm L I J) Q) := by
  intro m
  induction m with
  | zero =>
    intro k f hk h1
    rw [H_MD_isNew_44, if_neg (nI_nlt (by omega) (by omega))]
    show _ ↔ Wn _ _ _ [_, _, _, _, _, (5, .int (bI (f && true))), _] _ _ _
    rw [Bool.and_true]
  | succ m ih =>
    intro k f hk h1
    have x1 := h6 k (by omega)
    have x2 := h6 (k - 1) (by omega)
    have x3 := x1_lt x2
    have it := ih (k + 1) true (by omega) (by omega)
    have ifl := ih (k + 1) false (by omega) (by omega)
    have b1 : bI true = 1 := rfl
    have b0 : bI false = 0 := rfl
    rw [b1] at it
    rw [b0] at ifl
    rw [H_MD_isNew_44, if_pos (nI_lt (by omega) (by omega)), nI_1, nI_m1 (by omega)]
    cases f with
    | false => rw [if_pos (by rfl), ifl, Bool.false_and, Bool.false_and]
    | true =>
      rw [if_neg (by decide)]
      simp only [mm_C, mm_R, mm_L, mm_I, mm_sI, CL248, CL249, CL250, CL251, CL252, CL253, CL254, CL255, CL256, CL257, CL258, CL259, CL260, CL261, RR248_1, RR248_2, RR248_4, RR248_5, RR248_6, RR248_9, RR248_11, RR248_13, RR248_14, RR248_15, RR248_16, RR248_17, RR248_19, n249, n250, n251, n252, n253, n254, n255, n256, n257, n258, n259, n260, n261, LN249, LN250, LN251, LN252, LN253, LN254, LN255, LN256, LN257, LN258, LN259, LN260, LN261, ↓reduceIte]
      rw [if_pos (show rdI 10 ∧ inb (nI k) 4 from ⟨by decide, inb_nI (by omega) (by omega)⟩), if_pos (show rdI 10 ∧ inb (nI (k - 1)) 4 from ⟨by decide, inb_nI (by omega) (by omega)⟩), ix_nI (by omega), ix_nI (by omega), ht k (by omega), ht (k - 1) (by omega), nI_x1 x2, it, ifl]
      by_cases e : t.getD k 0 = t.getD (k - 1) 0 ^^^ 1
      · rw [if_pos (by rw [e]), alB_f (P := tghP t) (nb_f e), Bool.false_and, Bool.and_false]
      · rw [if_neg (fun c => e ((nI_eq (by omega) (by omega)).mp c)), alB_t (P := tghP t) (nb_t e)]
theorem m_new112E {I : Nat → Nat → Int32} {D h : Nat} {t : List Nat} (hm : Ml I 249 0 ns ct) (hh : h < ns.length) (he : (nmO ns h).length = t.length) (ht : Td I t) (h6 : ∀ k, k < t.length → t.getD k 0 < 6) (h4 : t.length ≤ 4) (hD : D ≤ 4) (q r : Int32) (Q : Option Value → Mem → Prop) : ∀ m k o, k + m = t.length → o ≤ k →
    (Wn (d + 1) i_MD_isNew 112 [(0, .ref 248), (1, .int (nI t.length)), (2, .int (nI D)), (3, .int q), (4, .int r), (5, .int 1), (6, .int (nI h)), (7, .int (nI o)), (8, .int (nI k))] [] (mm L I J) Q ↔ Wn (d + 1) i_MD_isNew 92 [(0, .ref 248), (1, .int (nI t.length)), (2, .int (nI D)), (3, .int q), (4, .int r), (5, .int (bI (decide (¬ o + cnt (fun j => !(g0 (nmO ns h) j == g0 t j)) m k < D)))), (6, .int (nI (h + 1)))] [] (mm L I J) Q) := by
  have n6 := hm.2.2.2.1
  have e0 : ∀ s : Nat, nI s + 0 = nI s := fun s => nI_add s 0
  intro m
  induction m with
  | zero =>
    intro k o hk ho
    rw [H_MD_isNew_112, if_neg (nI_nlt (by omega) (by omega)), e13, nI_1 h]
    simp only [mm_C, mm_R, mm_L, mm_I, mm_sI, CL248, CL249, CL250, CL251, CL252, CL253, CL254, CL255, CL256, CL257, CL258, CL259, CL260, CL261, RR248_1, RR248_2, RR248_4, RR248_5, RR248_6, RR248_9, RR248_11, RR248_13, RR248_14, RR248_15, RR248_16, RR248_17, RR248_19, n249, n250, n251, n252, n253, n254, n255, n256, n257, n258, n259, n260, n261, LN249, LN250, LN251, LN252, LN253, LN254, LN255, LN256, LN257, LN258, LN259, LN260, LN261, ↓reduceIte]
    rw [if_pos (ok13 (by omega)), if_pos (by rw [mlen hm hh, he])]
    show _ ↔ Wn _ _ _ [_, _, _, _, _, (5, .int (bI (decide (¬ o < D)))), _] _ _ _
    by_cases c : o < D
    · rw [if_pos (nI_lt c (by omega)), decide_eq_false (fun x => x c)]
      exact Iff.rfl
    · rw [if_neg (nI_nlt (by omega) (by omega)), decide_eq_true c]
      exact Iff.rfl
  | succ m ih =>
    intro k o hk ho
    have x1 := m6 hm hh (show k < (nmO ns h).length by omega)
    have x2 := h6 k (by omega)
    rw [H_MD_isNew_112, if_pos (nI_lt (by omega) (by omega)), e13, nI_1 k, nI_1 o, e0]
    simp only [mm_C, mm_R, mm_L, mm_I, mm_sI, CL248, CL249, CL250, CL251, CL252, CL253, CL254, CL255, CL256, CL257, CL258, CL259, CL260, CL261, RR248_1, RR248_2, RR248_4, RR248_5, RR248_6, RR248_9, RR248_11, RR248_13, RR248_14, RR248_15, RR248_16, RR248_17, RR248_19, n249, n250, n251, n252, n253, n254, n255, n256, n257, n258, n259, n260, n261, LN249, LN250, LN251, LN252, LN253, LN254, LN255, LN256, LN257, LN258, LN259, LN260, LN261, ↓reduceIte]
    rw [if_pos (ok13 (by omega)), if_pos (show I 249 (nI (13 + h)).toNatClampNeg = nI t.length by rw [mlen hm hh, he]), m_turnAt hm hh (by omega)]
    simp only [mm_C, mm_R, mm_L, mm_I, mm_sI, CL248, CL249, CL250, CL251, CL252, CL253, CL254, CL255, CL256, CL257, CL258, CL259, CL260, CL261, RR248_1, RR248_2, RR248_4, RR248_5, RR248_6, RR248_9, RR248_11, RR248_13, RR248_14, RR248_15, RR248_16, RR248_17, RR248_19, n249, n250, n251, n252, n253, n254, n255, n256, n257, n258, n259, n260, n261, LN249, LN250, LN251, LN252, LN253, LN254, LN255, LN256, LN257, LN258, LN259, LN260, LN261, ↓reduceIte]
    rw [if_pos (show rdI 10 ∧ inb (nI k) 4 from ⟨by decide, inb_nI (by omega) (by omega)⟩), ix_nI (by omega), ht k (by omega), ih (k + 1) o (by omega) (by omega), ih (k + 1) (o + 1) (by omega) (by omega)]
    by_cases e : (nmO ns h).getD k 0 = t.getD k 0
    · rw [if_pos (by rw [e]), cnt_f (nb_f e)]
    · rw [if_neg (fun c => e ((nI_eq (by omega) (by omega)).mp c)), cnt_t (nb_t e), Nat.add_assoc]
theorem m_new92 {I : Nat → Nat → Int32} {D : Nat} {t : List Nat} (hh : I 248 0 = nI ns.length) (hm : Ml I 249 0 ns ct) (ht : Td I t) (h6 : ∀ k, k < t.length → t.getD k 0 < 6) (h1 : 1 ≤ t.length) (h4 : t.length ≤ 4) (hD : D ≤ 4) (q r : Int32) (Q : Option Value → Mem → Prop) : ∀ m k f, k + m = ns.length →
    (Wn (d + 1) i_MD_isNew 92 [(0, .ref 248), (1, .int (nI t.length)), (2, .int (nI D)), (3, .int q), (4, .int r), (5, .int (bI f)), (6, .int (nI k))] [] (mm L I J) Q ↔ Q (some (.int (bI (f && alB (farP ns t D) m k)))) (mm L I J)) := by
  have n6 := hm.2.2.2.1
  intro m
  induction m with
  | zero =>
    intro k f hk
    rw [H_MD_isNew_92, mm_C, if_pos CL248, mm_I, hh, if_neg (nI_nlt (by omega) (by omega)), if_pos (bI_01 _)]
    show _ ↔ Q (some (.int (bI (f && true)))) _
    rw [Bool.and_true]
  | succ m ih =>
    intro k f hk
    have lk := mle hm (show k < ns.length by omega)
    have it := ih (k + 1) true (by omega)
    have b1 : bI true = 1 := rfl
    rw [b1] at it
    rw [H_MD_isNew_92, mm_C, if_pos CL248, mm_I, hh, if_pos (nI_lt (by omega) (by omega))]
    cases f with
    | false => rw [if_pos (by rfl), if_pos (bI_01 _), Bool.false_and]
    | true =>
      rw [if_neg (by decide)]
      by_cases e : (nmO ns k).length = t.length
      · have := m_new112E (d := d) (L := L) (J := J) hm (show k < ns.length by omega) e ht h6 h4 hD q r Q t.length 0 0 (by omega) (by omega)
        rw [nI_0, Nat.zero_add] at this
        show Wn (d + 1) i_MD_isNew 112 [(0, .ref 248), (1, .int (nI t.length)), (2, .int (nI D)), (3, .int q), (4, .int r), (5, .int 1), (6, .int (nI k)), (7, .int 0), (8, .int 0)] [] (mm L I J) Q ↔ _
        rw [this, ih (k + 1) _ (by omega), Bool.true_and]
        have ed : cnt (fun j => !(g0 (nmO ns k) j == g0 t j)) t.length 0 = difs (nmO ns k) t := by unfold difs; rw [e]
        rw [ed]
        by_cases c : difs (nmO ns k) t < D
        · rw [decide_eq_false (fun x => x c), alB_f (P := farP ns t D) (decide_eq_false (fun x => x ⟨e, c⟩)), Bool.false_and]
        · rw [decide_eq_true c, alB_t (P := farP ns t D) (decide_eq_true (fun x => c x.2)), Bool.true_and]
      · have ne : ¬ I 249 (nI (13 + k)).toNatClampNeg = nI t.length := by rw [mlen hm (by omega)]; exact fun c => e ((nI_eq (by omega) (by omega)).mp c)
        have z : (0 : Int32) < nI t.length := nI_lt (show 0 < t.length by omega) (by omega)
        rw [H_MD_isNew_112, if_pos z, e13]
        simp only [mm_C, mm_R, mm_L, mm_I, mm_sI, CL248, CL249, CL250, CL251, CL252, CL253, CL254, CL255, CL256, CL257, CL258, CL259, CL260, CL261, RR248_1, RR248_2, RR248_4, RR248_5, RR248_6, RR248_9, RR248_11, RR248_13, RR248_14, RR248_15, RR248_16, RR248_17, RR248_19, n249, n250, n251, n252, n253, n254, n255, n256, n257, n258, n259, n260, n261, LN249, LN250, LN251, LN252, LN253, LN254, LN255, LN256, LN257, LN258, LN259, LN260, LN261, ↓reduceIte]
        rw [if_pos (ok13 (by omega)), if_pos (ok13 (by omega)), if_neg ne, if_neg ne, nI_1, it, alB_t (P := farP ns t D) (decide_eq_true (fun x => e x.1))]
theorem m_isNew {I : Nat → Nat → Int32} {n D q : Nat} (hh : I 248 0 = nI ns.length) (hm : Ml I 249 0 ns ct) (h1 : 1 ≤ n) (h4 : n ≤ 4) (hD : D ≤ 4) (hq : q < 2 ^ 31) (Q : Int32 → Mem → Prop) (hQ : ∀ I', Td I' (spl q n) → FrT I I' → Q (bI (newP ns n D q)) (mm L I' J)) : WI (d + 1) i_MD_isNew [.ref 248, .int (nI n), .int (nI D), .int (nI q)] (mm L I J) Q := by
  rw [E_MD_isNew]
  have e : nI n - 1 = nI n + (-1) := by rw [Int32.sub_eq_add_neg]
  rw [e]
  have sl := spl_len q n
  have := m_new8 (d := d) (L := L) (J := J) (n := n) (D := D) (q := q) h4 hq (QI Q) n I (Nat.le_refl _) (fun i h1 h2 => by omega) (fun I' r g1 g2 => by
    have t6 : ∀ k, k < (spl q n).length → (spl q n).getD k 0 < 6 := fun k hk => spl_6 q n k (by omega)
    have a := m_new44 (d := d) (L := L) (J := J) (D := D) g1 t6 (by omega) (nI q) r (QI Q) (n - 1) 1 true (by omega) (by omega)
    have b := m_new92 (d := d) (L := L) (J := J) (D := D) (ns := ns) (ct := ct) (by rw [g2 248 (by omega)]; exact hh) (Ml_fr (g2 249 (by omega)) hm) g1 t6 (by omega) (by omega) hD (nI q) r (QI Q) ns.length 0 (tghB (spl q n)) (by omega)
    have b1 : bI true = 1 := rfl
    rw [b1, Bool.true_and] at a
    rw [nI_0] at b
    have et : alB (tghP (spl q n)) (n - 1) 1 = tghB (spl q n) := by unfold tghB; rw [sl]
    rw [et] at a
    rw [sl] at a b
    exact a.mpr (b.mpr (hQ I' g1 g2)))
  rw [Nat.sub_self, Nat.pow_zero, Nat.div_one] at this
  exact this
theorem m_nn47 {n D : Nat} (hn : n ≤ 4) (z : Int32) (M : Mem) (Q : Option Value → Mem → Prop) : ∀ m e, e + m = n →
    (Wn (d + 1) i_MD_newName 47 [(0, .ref 248), (1, .int (nI n)), (2, .int (nI D)), (3, .int z), (4, .int (nI (6 ^ e))), (5, .int (nI e))] [] M Q ↔ Wn (d + 1) i_MD_newName 79 [(0, .ref 248), (1, .int (nI n)), (2, .int (nI D)), (3, .int z), (4, .int (nI (6 ^ n))), (5, .int 0), (6, .int (-9)), (7, .int (nI (6 ^ n) + (-1)))] [] M Q) := by
  have e6 : ∀ x : Nat, nI x * 6 = nI (x * 6) := fun x => pk_mul x 6
  intro m
  induction m with
  | zero =>
    intro e he
    rw [H_MD_newName_47, if_neg (nI_nlt (by omega) (by omega)), show e = n by omega, Int32.sub_eq_add_neg]
  | succ m ih =>
    intro e he
    rw [H_MD_newName_47, if_pos (nI_lt (by omega) (by omega)), e6, ← Nat.pow_succ, nI_1, ih (e + 1) (by omega)]
def nnF (P : Nat → Bool) (m k : Nat) : Int32 := if cnt P m k = 0 then -9 else nI (fs P m k)
theorem nI_n9 {c : Nat} (h : c < 2 ^ 31) : ¬ nI c = -9 := fun q => by
  have h0 : ¬ nI c < 0 := nI_pos h
  rw [q] at h0
  exact h0 (by decide)
end MD21
section MD22
variable {d L : Nat} {J : Nat → Nat → Int64} {ns : List (List Nat)} {ct : List Nat} {ps : List Cp} {im : Nat → Option Cp} {tx : List Nat} {tr : Int64}
theorem m_nn79 {n D N : Nat} (h1 : 1 ≤ n) (h4 : n ≤ 4) (hD : D ≤ 4) (hN : N ≤ 1296) {z : Int32} (hz : z = -1 ∨ ∃ k, k < n ∧ z = nI k) (v4 : Int32) (Q : Option Value → Mem → Prop) : ∀ (k m : Nat) (I : Nat → Nat → Int32), k + m = N → MdR I J ns ct ps im tx tr → (∀ I', MdR I' J ns ct ps im tx tr → FrR 248 262 I I' → Q (some (.int (if z = -1 then nI (cnt (newP ns n D) N 0) else if cnt (newP ns n D) N 0 = 0 then -9 else nI ((spl (fs (newP ns n D) N 0) n).getD z.toNatClampNeg 0)))) (mm L I' J)) →
    Wn (d + 2) i_MD_newName 79 [(0, .ref 248), (1, .int (nI n)), (2, .int (nI D)), (3, .int z), (4, .int v4), (5, .int (nI (cnt (newP ns n D) m k))), (6, .int (nnF (newP ns n D) m k)), (7, .int (nI k + (-1)))] [] (mm L I J) Q := by
  have e0 : ∀ s : Nat, nI s + 0 = nI s := fun s => nI_add s 0
  intro k
  induction k with
  | zero =>
    intro m I hk h hQ
    have em : m = N := by omega
    subst em
    rw [H_MD_newName_79, if_pos (by decide)]
    rcases hz with hz | ⟨j, j1, j2⟩
    · have hz0 : z < 0 := by rw [hz]; decide
      rw [if_pos hz0, if_pos hz0]
      have := hQ I h (FrR_rf _ _ _)
      rw [if_pos hz] at this
      exact this
    · have z0' : ¬ z < 0 := by rw [j2]; exact nI_nn (by omega)
      have z1 : ¬ z = -1 := fun q => z0' (by rw [q]; decide)
      rw [if_neg z0', if_neg z0']
      unfold nnF
      by_cases c : cnt (newP ns n D) m 0 = 0
      · rw [if_pos c, if_pos rfl]
        have := hQ I h (FrR_rf _ _ _)
        rw [if_neg z1, if_pos c] at this
        exact this
      · obtain ⟨f1, f2⟩ := cnt_fs c
        have sl := spl_len (fs (newP ns n D) m 0) n
        rw [if_neg c, if_neg (nI_n9 (by omega)), mm_C, if_pos CL248]
        refine m_isNew h.1 h.2.1 h1 h4 hD (by omega) _ (fun I' g1 g2 => ?_)
        rw [f2, if_neg (by decide)]
        simp only [mm_C, mm_R, mm_L, mm_I, mm_sI, CL248, CL249, CL250, CL251, CL252, CL253, CL254, CL255, CL256, CL257, CL258, CL259, CL260, CL261, RR248_1, RR248_2, RR248_4, RR248_5, RR248_6, RR248_9, RR248_11, RR248_13, RR248_14, RR248_15, RR248_16, RR248_17, RR248_19, n249, n250, n251, n252, n253, n254, n255, n256, n257, n258, n259, n260, n261, LN249, LN250, LN251, LN252, LN253, LN254, LN255, LN256, LN257, LN258, LN259, LN260, LN261, ↓reduceIte]
        rw [j2, if_pos (show rdI 10 ∧ inb (nI j) 4 from ⟨by decide, inb_nI (by omega) (by omega)⟩)]
        have := hQ I' (MdR_sc h (FrT_M g2)) (FrM_R (FrT_M g2))
        rw [if_neg z1, if_neg c, j2, ix_nI (by omega)] at this
        rw [ix_nI (by omega), g1 j (by omega)]
        exact this
  | succ k ih =>
    intro m I hk h hQ
    rw [nI_dec, H_MD_newName_79, if_neg (nI_nn (by omega)), mm_C, if_pos CL248]
    refine m_isNew h.1 h.2.1 h1 h4 hD (by omega) _ (fun I' g1 g2 => ?_)
    have h' := MdR_sc h (FrT_M g2)
    have hQ' : ∀ I'', MdR I'' J ns ct ps im tx tr → FrR 248 262 I' I'' → Q (some (.int (if z = -1 then nI (cnt (newP ns n D) N 0) else if cnt (newP ns n D) N 0 = 0 then -9 else nI ((spl (fs (newP ns n D) N 0) n).getD z.toNatClampNeg 0)))) (mm L I'' J) := fun I'' a b => hQ I'' a (FrR_tr (FrM_R (FrT_M g2)) b)
    have next := ih (m + 1) I' (by omega) h' hQ'
    unfold nnF at next ⊢
    cases c : newP ns n D k with
    | false =>
      rw [cnt_f c, fs_f c] at next
      rw [if_pos (by rfl), if_pos (by rfl), e0]
      exact next
    | true =>
      rw [cnt_t c, fs_t c, if_neg (by omega), Nat.add_comm 1] at next
      rw [if_neg (by decide), if_neg (by decide), nI_1]
      exact next
end MD22
section MD23
variable {d L : Nat} {I : Nat → Nat → Int32} {J : Nat → Nat → Int64} {ns : List (List Nat)} {ct : List Nat} {ps : List Cp} {im : Nat → Option Cp} {tx : List Nat} {tr : Int64}
theorem m_newN1 {x y z : Int32} (hx : x < 1 ∨ 4 < x) (M : Mem) (Q : Int32 → Mem → Prop) : WI (d + 1) i_MD_newName [.ref 248, .int x, .int y, .int z] M Q ↔ Q (-1) M := by
  rw [E_MD_newName, q1, q4, m_in, nw_12 hx, if_pos (by rfl)]
theorem m_newN2 {n : Nat} (h1 : 1 ≤ n) (h4 : n ≤ 4) {y z : Int32} (hy : y < 1 ∨ 4 < y) (M : Mem) (Q : Int32 → Mem → Prop) : WI (d + 1) i_MD_newName [.ref 248, .int (nI n), .int y, .int z] M Q ↔ Q (-1) M := by
  rw [E_MD_newName, q1, q4, m_in, le14 h1 h4, if_neg (by decide), m_in, nw_12 hy, if_pos (by rfl)]
theorem m_newN3 {n D : Nat} (h1 : 1 ≤ n) (h4 : n ≤ 4) (d1 : 1 ≤ D) (d4 : D ≤ 4) {z : Int32} (hz : z < -1 ∨ nI n - 1 < z) (M : Mem) (Q : Int32 → Mem → Prop) : WI (d + 1) i_MD_newName [.ref 248, .int (nI n), .int (nI D), .int z] M Q ↔ Q (-1) M := by
  rw [E_MD_newName, qm1, q1, q4, m_in, le14 h1 h4, if_neg (by decide), m_in, le14 d1 d4, if_neg (by decide), m_in, nw_12 hz, if_pos (by rfl)]
theorem m_newY (h : MdR I J ns ct ps im tx tr) {n D : Nat} (h1 : 1 ≤ n) (h4 : n ≤ 4) (d1 : 1 ≤ D) (d4 : D ≤ 4) {z : Int32} (hz : z = -1 ∨ ∃ k, k < n ∧ z = nI k) (Q : Int32 → Mem → Prop) (hQ : ∀ I', MdR I' J ns ct ps im tx tr → FrR 248 262 I I' → Q (newA ns n D z) (mm L I' J)) : WI (d + 2) i_MD_newName [.ref 248, .int (nI n), .int (nI D), .int z] (mm L I J) Q := by
  have e0 : nI n - 1 = nI (n - 1) := nI_m1 (by omega)
  have hw : decide ((-1 : Int32) ≤ z ∧ z ≤ nI n - 1) = true := by
    rw [e0]
    rcases hz with hz | ⟨k, k1, k2⟩
    · rw [hz]
      refine decide_eq_true ⟨by decide, ?_⟩
      have a1 : (0 : Int32) ≤ nI (n - 1) := nI_pos' (by omega)
      exact Int32.le_trans (show (-1 : Int32) ≤ 0 by decide) a1
    · rw [k2]
      have a1 : (0 : Int32) ≤ nI k := nI_pos' (by omega)
      exact decide_eq_true ⟨Int32.le_trans (show (-1 : Int32) ≤ 0 by decide) a1, nI_le (by omega) (by omega)⟩
  have p2 : 6 ^ n ≤ 6 ^ 4 := Nat.pow_le_pow_right (by omega) (by omega)
  rw [E_MD_newName, qm1, q1, q4, m_in, le14 h1 h4, if_neg (by decide), m_in, le14 d1 d4, if_neg (by decide), m_in, hw, if_neg (by decide)]
  have a := m_nn47 (d := d + 1) (n := n) (D := D) h4 z (mm L I J) (QI Q) n 0 (by omega)
  rw [nI_0] at a
  refine a.mpr ?_
  have b := m_nn79 (d := d) (L := L) (J := J) (ns := ns) (ct := ct) (ps := ps) (im := im) (tx := tx) (tr := tr) (D := D) (N := 6 ^ n) h1 h4 d4 (by omega) hz (nI (6 ^ n)) (QI Q) (6 ^ n) 0 I (by omega) h (fun I' g1 g2 => hQ I' g1 g2)
  exact b
end MD23
