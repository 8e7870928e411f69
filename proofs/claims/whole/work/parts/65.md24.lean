/-! ===== the model reads the text ===== -/
section Rd1
variable {tx : List Nat}
/-- the next letter that is no space -/
def sk (tx : List Nat) (n k : Nat) : Nat := fs (fun j => !(tx.getD j 0 == 32)) n k
theorem sk_le (n k : Nat) : k ≤ sk tx n k ∧ sk tx n k ≤ k + n := fs_le _ n k
theorem sk_sp (n k : Nat) (h : sk tx n k < k + n) : tx.getD (sk tx n k) 0 ≠ 32 := by
  have := fs_st (P := fun j => !(tx.getD j 0 == 32)) n k h
  intro q
  have e : (!((tx.getD (sk tx n k) 0) == 32)) = true := this
  rw [nb_f q] at e
  cases e
theorem sk_t {n k : Nat} (h : tx.getD k 0 = 32) : sk tx (n + 1) k = sk tx n (k + 1) := by
  unfold sk
  rw [fs_f (nb_f h)]
theorem sk_f {n k : Nat} (h : tx.getD k 0 ≠ 32) : sk tx (n + 1) k = k := by
  unfold sk
  rw [fs_t (nb_t h)]
theorem flt_sk : ∀ n k i t o, flt tx n k i t o = flt tx (k + n - sk tx n k) (sk tx n k) i t o := by
  intro n
  induction n with
  | zero => intro k i t o; show flt tx 0 k i t o = flt tx (k + 0 - k) k i t o; rw [Nat.add_zero, Nat.sub_self]
  | succ n ih =>
    intro k i t o
    by_cases c : tx.getD k 0 = 32
    · have e : flt tx (n + 1) k i t o = flt tx n (k + 1) i t o := by
        rw [flt, if_pos c]
      rw [sk_t c, e, ih, show k + (n + 1) = k + 1 + n by omega]
    · rw [sk_f c, show k + (n + 1) - k = n + 1 by omega]
theorem tell_sk : ∀ n k ns, tellF tx n k ns = tellF tx (k + n - sk tx n k) (sk tx n k) ns := by
  intro n
  induction n with
  | zero => intro k ns; show tellF tx 0 k ns = tellF tx (k + 0 - k) k ns; rw [Nat.add_zero, Nat.sub_self]
  | succ n ih =>
    intro k ns
    by_cases c : tx.getD k 0 = 32
    · have e : tellF tx (n + 1) k ns = tellF tx n (k + 1) ns := by
        rw [tellF, if_neg (by omega), if_neg (by rw [c]; decide)]
      rw [sk_t c, e, ih, show k + (n + 1) = k + 1 + n by omega]
    · rw [sk_f c, show k + (n + 1) - k = n + 1 by omega]
def aL (tx : List Nat) (k : Nat) : Int32 := if k < tx.length then nI (tx.getD k 0) else -1
def aT (tx : List Nat) (k : Nat) : Int32 := if k < tx.length then tnL (tx.getD k 0) else -1
/-- only the place of reading changes -/
def FrA (I I' : Nat → Nat → Int32) : Prop := (∀ a, a ≠ 248 → I' a = I a) ∧ ∀ k, k ≠ 12 → I' 248 k = I 248 k
theorem FrA_rf (I : Nat → Nat → Int32) : FrA I I := ⟨fun _ _ => rfl, fun _ _ => rfl⟩
theorem FrA_tr {I I' I'' : Nat → Nat → Int32} (h : FrA I I') (h2 : FrA I' I'') : FrA I I'' := ⟨fun a p => (h2.1 a p).trans (h.1 a p), fun k p => (h2.2 k p).trans (h.2 k p)⟩
theorem FrA_u {I : Nat → Nat → Int32} {v : Int32} : FrA I (up2 I 248 12 v) := ⟨fun a h1 => up2_ne _ _ _ h1, fun k hk => up2_other _ _ _ hk⟩
theorem FrA_M {I I' : Nat → Nat → Int32} (h : FrA I I') : FrM I I' := ⟨fun a p => h.1 a (by omega), fun k p => h.2 k (by omega)⟩
theorem TxM_M {I I' : Nat → Nat → Int32} (F : FrM I I') (h : TxM I tx) : TxM I' tx := TxM_fr (F.2 7 (by omega)) (F.1 253 (by omega)) h
theorem Cd_A {I I' : Nat → Nat → Int32} {l : List Nat} (h : Cd I l) (F : FrA I I') : Cd I' l := ⟨by rw [F.2 10 (by omega)]; exact h.1, fun k hk => by rw [F.1 254 (by omega)]; exact h.2.1 k hk, h.2.2⟩
end Rd1
section Rd2
variable {d L : Nat} {J : Nat → Nat → Int64} {tx : List Nat}
theorem m_ahead_loop (Q : Option Value → Mem → Prop) : ∀ (n k : Nat) (I : Nat → Nat → Int32), k + n = tx.length → TxM I tx → I 248 12 = nI k → (∀ I', I' 248 12 = nI (sk tx n k) → FrA I I' → Q (some (.int (aL tx (sk tx n k)))) (mm L I' J)) → Wn d i_MD_ahead 0 [(0, .ref 248)] [] (mm L I J) Q := by
  intro n
  induction n with
  | zero =>
    intro k I hk hT h12 hQ
    have h200 := hT.2.1
    rw [H_MD_ahead_0]
    simp only [mm_C, mm_R, mm_L, mm_I, mm_sI, CL248, CL249, CL250, CL251, CL252, CL253, CL254, CL255, CL256, CL257, CL258, CL259, CL260, CL261, RR248_1, RR248_2, RR248_4, RR248_5, RR248_6, RR248_9, RR248_11, RR248_13, RR248_14, RR248_15, RR248_16, RR248_17, RR248_19, n249, n250, n251, n252, n253, n254, n255, n256, n257, n258, n259, n260, n261, LN249, LN250, LN251, LN252, LN253, LN254, LN255, LN256, LN257, LN258, LN259, LN260, LN261, ↓reduceIte, h12, hT.1]
    rw [if_neg (nI_nlt (by omega) (by omega)), if_neg (nI_nlt (by omega) (by omega))]
    have := hQ I h12 (FrA_rf I)
    have e : aL tx (sk tx 0 k) = -1 := by
      show aL tx k = -1
      unfold aL
      rw [if_neg (show ¬ k < tx.length by omega)]
    rw [e] at this
    exact this
  | succ n ih =>
    intro k I hk hT h12 hQ
    have h200 := hT.2.1
    obtain ⟨e1, e2⟩ := hT.2.2 k (by omega)
    rw [H_MD_ahead_0]
    simp only [mm_C, mm_R, mm_L, mm_I, mm_sI, CL248, CL249, CL250, CL251, CL252, CL253, CL254, CL255, CL256, CL257, CL258, CL259, CL260, CL261, RR248_1, RR248_2, RR248_4, RR248_5, RR248_6, RR248_9, RR248_11, RR248_13, RR248_14, RR248_15, RR248_16, RR248_17, RR248_19, n249, n250, n251, n252, n253, n254, n255, n256, n257, n258, n259, n260, n261, LN249, LN250, LN251, LN252, LN253, LN254, LN255, LN256, LN257, LN258, LN259, LN260, LN261, ↓reduceIte, h12, hT.1]
    rw [if_pos (nI_lt (by omega) (by omega)), if_pos (show rdI 10 ∧ inb (nI k) 200 from ⟨by decide, inb_nI (by omega) (by omega)⟩), if_pos (show rdI 10 ∧ inb (nI k) 200 from ⟨by decide, inb_nI (by omega) (by omega)⟩), ix_nI (by omega), e1, nI_1]
    by_cases c : tx.getD k 0 = 32
    · rw [sk_t c] at hQ
      rw [if_pos (by rw [c]; rfl)]
      refine ih (k + 1) _ (by omega) (TxM_M (FrA_M FrA_u) hT) (up2_same _ _ _ _) (fun I' g1 g2 => hQ I' g1 (FrA_tr FrA_u g2))
    · have n32 : nI (tx.getD k 0) ≠ 32 := q_ne 32 e2 (by omega) c
      rw [sk_f c] at hQ
      rw [if_neg n32, if_pos (nI_lt (by omega) (by omega))]
      have := hQ I h12 (FrA_rf I)
      unfold aL at this
      rw [if_pos (show k < tx.length by omega)] at this
      exact this
theorem m_ahead {I : Nat → Nat → Int32} {n k : Nat} (hk : k + n = tx.length) (hT : TxM I tx) (h12 : I 248 12 = nI k) (Q : Int32 → Mem → Prop) (hQ : ∀ I', I' 248 12 = nI (sk tx n k) → FrA I I' → Q (aL tx (sk tx n k)) (mm L I' J)) : WI d i_MD_ahead [.ref 248] (mm L I J) Q := by
  rw [E_MD_ahead]
  exact m_ahead_loop (QI Q) n k I hk hT h12 hQ
theorem m_turnOf {q : Nat} (hq : q < 256) (M : Mem) (Q : Int32 → Mem → Prop) : WI d i_MD_turnOf [.int (nI q)] M Q ↔ Q (tnL q) M := by
  have ne : ∀ c : Nat, c < 256 → ∀ A B : Prop, (if nI q = nI c then A else B) = (if q = c then A else B) := fun c hc A B => by
    by_cases e : q = c
    · rw [if_pos (by rw [e]), if_pos e]
    · rw [if_neg (fun r => e ((nI_eq (by omega) (by omega)).mp r)), if_neg e]
  have f1 : ∀ A B : Prop, (if nI q = 117 then A else B) = (if q = 117 then A else B) := ne 117 (by omega)
  have f2 : ∀ A B : Prop, (if nI q = 100 then A else B) = (if q = 100 then A else B) := ne 100 (by omega)
  have f3 : ∀ A B : Prop, (if nI q = 108 then A else B) = (if q = 108 then A else B) := ne 108 (by omega)
  have f4 : ∀ A B : Prop, (if nI q = 114 then A else B) = (if q = 114 then A else B) := ne 114 (by omega)
  have f5 : ∀ A B : Prop, (if nI q = 105 then A else B) = (if q = 105 then A else B) := ne 105 (by omega)
  have f6 : ∀ A B : Prop, (if nI q = 111 then A else B) = (if q = 111 then A else B) := ne 111 (by omega)
  rw [E_MD_turnOf, f1, f2, f3, f4, f5, f6]
  unfold tnL
  rw [pif (Q := Q), pif (Q := Q), pif (Q := Q), pif (Q := Q), pif (Q := Q), pif (Q := Q)]
theorem m_turnA {I : Nat → Nat → Int32} (hT : TxM I tx) (k : Nat) (M : Mem) (Q : Int32 → Mem → Prop) : WI d i_MD_turnOf [.int (aL tx k)] M Q ↔ Q (aT tx k) M := by
  unfold aL aT
  by_cases c : k < tx.length
  · rw [if_pos c, if_pos c, m_turnOf (hT.2.2 k c).2]
  · rw [if_neg c, if_neg c, E_MD_turnOf, if_neg (by decide), if_neg (by decide), if_neg (by decide), if_neg (by decide), if_neg (by decide), if_neg (by decide)]
theorem Ml_app {I I' : Nat → Nat → Int32} {a : Nat} {ns : List (List Nat)} {l : List Nat} (h : Ml I a 0 ns []) (hn : ns.length < 6) (h1 : I' a (13 + ns.length) = nI l.length) (h2 : ∀ k, k < l.length → I' a (19 + 12 * ns.length + k) = nI (l.getD k 0)) (h3 : ∀ x ∈ l, x < 6) (h4 : l.length ≤ 12) (hF : ∀ t, t ≠ 13 + ns.length → (t < 19 + 12 * ns.length ∨ 31 + 12 * ns.length ≤ t) → I' a t = I a t) : Ml I' a 0 (ns ++ [l]) [] := by
  obtain ⟨a1, a2, a3, a4, a5⟩ := h
  refine ⟨by rw [hF 0 (by omega) (by omega)]; exact a1, a2, ⟨fun k hk => absurd hk (Nat.not_lt_zero k), fun x hx => by cases hx⟩, by rw [List.length_append, List.length_singleton]; omega, fun e he => ?_⟩
  rw [List.length_append, List.length_singleton] at he
  by_cases q : e = ns.length
  · rw [q, nmO_end, Nat.zero_add, Nat.zero_add]
    exact ⟨h1, h4, h2, h3⟩
  · rw [nmO_app _ _ (by omega)]
    obtain ⟨b1, b2, b3⟩ := a5 e (by omega)
    rw [Nat.zero_add] at b1 b3 ⊢
    refine ⟨by rw [hF _ (by omega) (by omega)]; exact b1, b2, ⟨fun k hk => ?_, b3.2⟩⟩
    rw [Nat.zero_add, hF _ (by omega) (by omega)]
    exact b3.1 k hk
theorem m_th120 {I : Nat → Nat → Int32} {l : List Nat} (hl : Cd I l) (h12 : l.length ≤ 12) {h : Nat} (hh : h < 6) (v2 v3 : Int32) (Q : Option Value → Mem → Prop) : ∀ n k, k + n = l.length → (Wn (d + 1) i_MD_takesHerder 120 [(0, .ref 248), (1, .int (nI h)), (2, .int v2), (3, .int v3), (4, .int (nI k))] [] (mm L (cpN I 254 0 255 (19 + 12 * h) k) J) Q ↔ Q (some (.int 1)) (mm L (cpN I 254 0 255 (19 + 12 * h) l.length) J)) := by
  intro n
  induction n with
  | zero =>
    intro k hk
    have t10 : cpN I 254 0 255 (19 + 12 * h) k 248 10 = nI l.length := by rw [cpN_ne _ (by omega)]; exact hl.1
    rw [H_MD_takesHerder_120]
    simp only [mm_C, mm_R, mm_L, mm_I, mm_sI, CL248, CL249, CL250, CL251, CL252, CL253, CL254, CL255, CL256, CL257, CL258, CL259, CL260, CL261, RR248_1, RR248_2, RR248_4, RR248_5, RR248_6, RR248_9, RR248_11, RR248_13, RR248_14, RR248_15, RR248_16, RR248_17, RR248_19, n249, n250, n251, n252, n253, n254, n255, n256, n257, n258, n259, n260, n261, LN249, LN250, LN251, LN252, LN253, LN254, LN255, LN256, LN257, LN258, LN259, LN260, LN261, ↓reduceIte, t10]
    rw [if_neg (nI_nlt (by omega) (by omega)), show k = l.length by omega]
  | succ n ih =>
    intro k hk
    have t10 : cpN I 254 0 255 (19 + 12 * h) k 248 10 = nI l.length := by rw [cpN_ne _ (by omega)]; exact hl.1
    have cs := cpN_s I (a := 254) (i := 0) (b := 255) (j := 19 + 12 * h) (n := k) (by omega)
    rw [Nat.zero_add] at cs
    rw [H_MD_takesHerder_120, e19, nI_add]
    simp only [mm_C, mm_R, mm_L, mm_I, mm_sI, CL248, CL249, CL250, CL251, CL252, CL253, CL254, CL255, CL256, CL257, CL258, CL259, CL260, CL261, RR248_1, RR248_2, RR248_4, RR248_5, RR248_6, RR248_9, RR248_11, RR248_13, RR248_14, RR248_15, RR248_16, RR248_17, RR248_19, n249, n250, n251, n252, n253, n254, n255, n256, n257, n258, n259, n260, n261, LN249, LN250, LN251, LN252, LN253, LN254, LN255, LN256, LN257, LN258, LN259, LN260, LN261, ↓reduceIte, t10]
    rw [if_pos (nI_lt (by omega) (by omega)), if_pos (show rdI 10 ∧ inb (nI k) 72 from ⟨by decide, inb_nI (by omega) (by omega)⟩), if_pos ⟨trivial, inb_nI (by omega) (by omega)⟩, ix_nI (by omega), ix_nI (by omega), cs, nI_1, ih (k + 1) (by omega)]
theorem set_end (ns : List (List Nat)) (l x : List Nat) : (ns ++ [l]).set ((ns ++ [l]).length - 1) x = ns ++ [x] := by
  rw [List.length_append, List.length_singleton, Nat.add_sub_cancel, List.set_append_right _ _ (Nat.le_refl _), Nat.sub_self]
  rfl
/-- a herder is read from behind its h on -/
theorem m_th42 {ns : List (List Nat)} (hn : ns.length < 6) (Q : Option Value → Mem → Prop) : ∀ (m n k t : Nat) (l : List Nat) (I : Nat → Nat → Int32), n ≤ m → k + n = tx.length → (k < tx.length → tx.getD k 0 ≠ 32) → TxM I tx → Ml I 255 0 ns [] → Cd I l → l.length ≤ t → t ≤ 8 → I 248 12 = nI k →
    (∀ p I', flt tx n k (ns.length + 1) t true = some p → p ≤ tx.length → I' 248 12 = nI p → FrM I I' → Q (some (.int 0)) (mm L I' J)) →
    (∀ n' k' t' l' I', flt tx n k (ns.length + 1) t true = flt tx n' k' (ns.length + 1) t' false → tellF tx n k (ns ++ [l]) = tellF tx n' k' (ns ++ [l']) → n' < n → k' + n' = tx.length → I' 248 12 = nI k' → Ml I' 255 0 (ns ++ [l']) [] → FrM I I' → Q (some (.int 1)) (mm L I' J)) →
    Wn (d + 1) i_MD_takesHerder 42 [(0, .ref 248), (1, .int (nI ns.length)), (2, .int (nI t)), (3, .int (aT tx k))] [] (mm L I J) Q := by
  intro m
  induction m with
  | zero =>
    intro n k t l I hm hk hsp hT hM hc hl ht h12 hF hY
    have n0 : n = 0 := by omega
    subst n0
    have ea : aT tx k = -1 := by unfold aT; rw [if_neg (by omega)]
    have sk0 : sk tx 0 k = k := rfl
    rw [H_MD_takesHerder_42, ea, if_pos (by decide), mm_C, if_pos CL248]
    refine m_ahead hk hT h12 _ (fun I1 g1 g2 => ?_)
    rw [sk0] at g1 ⊢
    have el : aL tx k = -1 := by unfold aL; rw [if_neg (by omega)]
    rw [el, if_neg (by decide)]
    exact hF k I1 (by rw [flt, if_pos rfl]) (by omega) g1 (FrA_M g2)
  | succ m ih =>
    intro n k t l I hm hk hsp hT hM hc hl ht h12 hF hY
    cases n with
    | zero =>
      have ea : aT tx k = -1 := by unfold aT; rw [if_neg (by omega)]
      have sk0 : sk tx 0 k = k := rfl
      rw [H_MD_takesHerder_42, ea, if_pos (by decide), mm_C, if_pos CL248]
      refine m_ahead hk hT h12 _ (fun I1 g1 g2 => ?_)
      rw [sk0] at g1 ⊢
      have el : aL tx k = -1 := by unfold aL; rw [if_neg (by omega)]
      rw [el, if_neg (by decide)]
      exact hF k I1 (by rw [flt, if_pos rfl]) (by omega) g1 (FrA_M g2)
    | succ n =>
      have hkl : k < tx.length := by omega
      have n32 := hsp hkl
      obtain ⟨e1, e2⟩ := hT.2.2 k hkl
      have ea : aT tx k = tnL (tx.getD k 0) := by unfold aT; rw [if_pos hkl]
      have el : aL tx k = nI (tx.getD k 0) := by unfold aL; rw [if_pos hkl]
      rw [H_MD_takesHerder_42, ea]
      rcases tn_NL (tx.getD k 0) with ⟨t1, t2, t3⟩ | ⟨t1, t2, t3⟩
      · have q59 : ¬ tx.getD k 0 = 59 := fun e => by rw [e] at t1; exact absurd t1 (by decide)
        have q104 : ¬ tx.getD k 0 = 104 := fun e => by rw [e] at t1; exact absurd t1 (by decide)
        rw [if_neg t2]
        by_cases t8 : t < 8
        · have j8 : ¬ nI t = nI 8 := fun q => by have := (nI_eq (by omega) (by omega)).mp q; omega
          have j8 : ¬ nI t = 8 := j8
          have tl := tie_len l (tnN (tx.getD k 0))
          rw [if_neg j8, t3, nI_1 t]
          simp only [mm_C, mm_R, mm_L, mm_I, mm_sI, CL248, CL249, CL250, CL251, CL252, CL253, CL254, CL255, CL256, CL257, CL258, CL259, CL260, CL261, RR248_1, RR248_2, RR248_4, RR248_5, RR248_6, RR248_9, RR248_11, RR248_13, RR248_14, RR248_15, RR248_16, RR248_17, RR248_19, n249, n250, n251, n252, n253, n254, n255, n256, n257, n258, n259, n260, n261, LN249, LN250, LN251, LN252, LN253, LN254, LN255, LN256, LN257, LN258, LN259, LN260, LN261, ↓reduceIte]
          refine m_tie hc (by omega) t1 _ (fun I1 g1 g2 => ?_)
          have k12 : I1 248 12 = nI k := by rw [g2.2 12 (by omega)]; exact h12
          simp only [mm_C, mm_R, mm_L, mm_I, mm_sI, CL248, CL249, CL250, CL251, CL252, CL253, CL254, CL255, CL256, CL257, CL258, CL259, CL260, CL261, RR248_1, RR248_2, RR248_4, RR248_5, RR248_6, RR248_9, RR248_11, RR248_13, RR248_14, RR248_15, RR248_16, RR248_17, RR248_19, n249, n250, n251, n252, n253, n254, n255, n256, n257, n258, n259, n260, n261, LN249, LN250, LN251, LN252, LN253, LN254, LN255, LN256, LN257, LN258, LN259, LN260, LN261, ↓reduceIte, k12, nI_1]
          have F1 : FrM I (up2 I1 248 12 (nI (k + 1))) := FrM_tr (FrM_K g2) (FrA_M FrA_u)
          refine m_ahead (k := k + 1) (n := n) (by omega) (TxM_M F1 hT) (up2_same _ _ _ _) _ (fun I2 f1 f2 => ?_)
          have F2 : FrM I I2 := FrM_tr F1 (FrA_M f2)
          rw [m_turnA hT]
          have sl := sk_le (tx := tx) n (k + 1)
          have m2 : I2 255 = I 255 := by rw [f2.1 255 (by omega), up2_ne _ _ _ (by omega), g2.1 255 (by omega) (by omega)]
          have hs := flt_sk (tx := tx) n (k + 1) (ns.length + 1) (t + 1) true
          have hf : flt tx (n + 1) k (ns.length + 1) t true = flt tx n (k + 1) (ns.length + 1) (t + 1) true := by rw [flt, if_neg n32, if_pos rfl, if_neg q59, if_pos t1, if_pos t8]
          have hts := tell_sk (tx := tx) n (k + 1) (ns ++ [tie l (tnN (tx.getD k 0))])
          have htl : tellF tx (n + 1) k (ns ++ [l]) = tellF tx n (k + 1) (ns ++ [tie l (tnN (tx.getD k 0))]) := by
            rw [tellF, if_neg q104, if_pos t1, set_end, List.length_append, List.length_singleton, Nat.add_sub_cancel, nmO_end]
          refine ih (k + 1 + n - sk tx n (k + 1)) (sk tx n (k + 1)) (t + 1) _ I2 (by omega) (by omega) (fun q => sk_sp n (k + 1) (by omega)) (TxM_M F2 hT) (Ml_fr m2 hM) (Cd_A (Cd_A g1 FrA_u) f2) (by omega) (by omega) f1 (fun p I' r1 r2 r3 r4 => hF p I' (by rw [hf, hs]; exact r1) r2 r3 (FrM_tr F2 r4)) (fun n' k' t' l' I' r1 r2 r3 r4 r5 r6 r7 => hY n' k' t' l' I' (by rw [hf, hs]; exact r1) (by rw [htl, hts]; exact r2) (by omega) r4 r5 r6 (FrM_tr F2 r7))
        · have j8 : nI t = nI 8 := by rw [show t = 8 by omega]
          have j8 : nI t = 8 := j8
          rw [if_pos j8]
          refine hF k I ?_ (by omega) h12 (FrM_rf I)
          rw [flt, if_neg n32, if_pos rfl, if_neg q59, if_pos t1, if_neg t8]
      · rw [if_pos t2, mm_C, if_pos CL248]
        refine m_ahead hk hT h12 _ (fun I1 g1 g2 => ?_)
        rw [sk_f n32] at g1 ⊢
        rw [el]
        by_cases q59 : tx.getD k 0 = 59
        · rw [if_pos (by rw [q59]; rfl)]
          have h10 : ∀ v : Int32, up2 I1 248 12 v 248 10 = nI l.length := fun v => by rw [up2_other _ _ _ (by omega), g2.2 10 (by omega)]; exact hc.1
          simp only [mm_C, mm_R, mm_L, mm_I, mm_sI, CL248, CL249, CL250, CL251, CL252, CL253, CL254, CL255, CL256, CL257, CL258, CL259, CL260, CL261, RR248_1, RR248_2, RR248_4, RR248_5, RR248_6, RR248_9, RR248_11, RR248_13, RR248_14, RR248_15, RR248_16, RR248_17, RR248_19, n249, n250, n251, n252, n253, n254, n255, n256, n257, n258, n259, n260, n261, LN249, LN250, LN251, LN252, LN253, LN254, LN255, LN256, LN257, LN258, LN259, LN260, LN261, ↓reduceIte, g1, nI_1, h10, e13]
          rw [if_pos ⟨trivial, inb_nI (by omega) (by omega)⟩, ix_nI (by omega)]
          have F1 : FrM I (up2 (up2 I1 248 12 (nI (k + 1))) 255 (13 + ns.length) (nI l.length)) := FrM_tr (FrA_M g2) (FrM_tr (FrA_M FrA_u) (FrM_u (by omega) (by omega)))
          have c1 : Cd (up2 (up2 I1 248 12 (nI (k + 1))) 255 (13 + ns.length) (nI l.length)) l := by
            have c0 := Cd_A (Cd_A hc g2) (FrA_u (v := nI (k + 1)))
            exact ⟨by rw [up2_ne _ _ _ (by omega)]; exact c0.1, fun j hj => by rw [up2_ne _ _ _ (by omega)]; exact c0.2.1 j hj, c0.2.2⟩
          have lp := m_th120 (d := d) (L := L) (J := J) c1 (by omega) (show ns.length < 6 by omega) (nI t) (tnL (tx.getD k 0)) Q l.length 0 (by omega)
          rw [nI_0, cpN_0] at lp
          refine lp.mpr ?_
          refine hY n (k + 1) t l _ ?_ ?_ (by omega) (by omega) ?_ ?_ (FrM_tr F1 ⟨fun a p => cpN_ne _ (by omega), fun j p => by rw [cpN_ne _ (by omega)]⟩)
          · rw [flt, if_neg n32, if_pos rfl, if_pos q59]
          · rw [tellF, if_neg (by omega), if_neg (by omega)]
          · rw [cpN_ne _ (by omega), up2_ne _ _ _ (by omega), up2_same]
          · refine Ml_app hM hn ?_ (fun j hj => ?_) hc.2.2 (by omega) (fun j j1 j2 => ?_)
            · rw [cpN_out _ (by omega), up2_same]
            · rw [cpN_at _ hj, Nat.zero_add]
              exact c1.2.1 j hj
            · rw [cpN_out _ (by omega), up2_other _ _ _ j1, up2_ne _ _ _ (by omega), g2.1 255 (by omega)]
        · have n59 : nI (tx.getD k 0) ≠ 59 := q_ne 59 e2 (by omega) q59
          rw [if_neg n59]
          refine hF k I1 ?_ (by omega) g1 (FrA_M g2)
          rw [flt, if_neg n32, if_pos rfl, if_neg q59, if_neg (by omega)]
end Rd2
