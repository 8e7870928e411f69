/-! ===== the model: its cells, frames, remembering, laying a name ===== -/
theorem CL250 : CL 250 = 10 := by decide
theorem CL251 : CL 251 = 10 := by decide
theorem CL252 : CL 252 = 12 := by decide
theorem CL255 : CL 255 = 10 := by decide
theorem CL256 : CL 256 = 10 := by decide
theorem CL257 : CL 257 = 10 := by decide
theorem CL258 : CL 258 = 10 := by decide
theorem CL259 : CL 259 = 10 := by decide
theorem CL260 : CL 260 = 10 := by decide
theorem CL261 : CL 261 = 10 := by decide
theorem RR248_2 : RR 248 2 = 250 := by decide
theorem RR248_4 : RR 248 4 = 251 := by decide
theorem RR248_5 : RR 248 5 = 252 := by decide
theorem RR248_11 : RR 248 11 = 255 := by decide
theorem RR248_13 : RR 248 13 = 256 := by decide
theorem RR248_14 : RR 248 14 = 257 := by decide
theorem RR248_15 : RR 248 15 = 258 := by decide
theorem RR248_16 : RR 248 16 = 259 := by decide
theorem RR248_17 : RR 248 17 = 260 := by decide
theorem RR248_19 : RR 248 19 = 261 := by decide
theorem n250 : ¬ (250 : Nat) = 999999 := by decide
theorem n251 : ¬ (251 : Nat) = 999999 := by decide
theorem n252 : ¬ (252 : Nat) = 999999 := by decide
theorem n255 : ¬ (255 : Nat) = 999999 := by decide
theorem n256 : ¬ (256 : Nat) = 999999 := by decide
theorem n257 : ¬ (257 : Nat) = 999999 := by decide
theorem n258 : ¬ (258 : Nat) = 999999 := by decide
theorem n259 : ¬ (259 : Nat) = 999999 := by decide
theorem n260 : ¬ (260 : Nat) = 999999 := by decide
theorem n261 : ¬ (261 : Nat) = 999999 := by decide
theorem LN250 (L : Nat) : LN L 250 = 910 := rfl
theorem LN251 (L : Nat) : LN L 251 = 182 := rfl
theorem LN252 (L : Nat) : LN L 252 = 2 := rfl
theorem LN255 (L : Nat) : LN L 255 = 91 := rfl
theorem LN256 (L : Nat) : LN L 256 = 72 := rfl
theorem LN257 (L : Nat) : LN L 257 = 4 := rfl
theorem LN258 (L : Nat) : LN L 258 = 169 := rfl
theorem LN259 (L : Nat) : LN L 259 = 6 := rfl
theorem LN260 (L : Nat) : LN L 260 = 12 := rfl
theorem LN261 (L : Nat) : LN L 261 = 6 := rfl
/-- what the relation of the model does not speak of may change -/
def FrM (I I' : Nat → Nat → Int32) : Prop := (∀ a, (a < 248 ∨ (248 < a ∧ a < 254) ∨ 262 ≤ a) → I' a = I a) ∧ ∀ k, (k = 0 ∨ k = 3 ∨ k = 7) → I' 248 k = I 248 k
theorem FrM_rf (I : Nat → Nat → Int32) : FrM I I := ⟨fun _ _ => rfl, fun _ _ => rfl⟩
theorem FrM_tr {I I' I'' : Nat → Nat → Int32} (h : FrM I I') (h2 : FrM I' I'') : FrM I I'' := ⟨fun a p => (h2.1 a p).trans (h.1 a p), fun k p => (h2.2 k p).trans (h.2 k p)⟩
theorem FrM_K {I I' : Nat → Nat → Int32} (h : FrK I I') : FrM I I' := ⟨fun a p => h.1 a (by omega) (by omega), fun k p => h.2 k (by omega)⟩
theorem FrM_R {I I' : Nat → Nat → Int32} (h : FrM I I') : FrR 248 262 I I' := fun a p => h.1 a (by omega)
theorem FrM_u {I : Nat → Nat → Int32} {a k : Nat} {v : Int32} (h1 : 254 ≤ a) (h2 : a < 262) : FrM I (up2 I a k v) := ⟨fun b p => up2_ne _ _ _ (by omega), fun j p => by rw [up2_ne _ _ _ (by omega)]⟩
theorem FrM_f {I : Nat → Nat → Int32} {k : Nat} {v : Int32} (h1 : k ≠ 0) (h2 : k ≠ 3) (h3 : k ≠ 7) : FrM I (up2 I 248 k v) := ⟨fun b p => up2_ne _ _ _ (by omega), fun j p => up2_other _ _ _ (by omega)⟩
theorem Ml_mv {I I' : Nat → Nat → Int32} {a i b j : Nat} {ns : List (List Nat)} {ct : List Nat} (h : ∀ t, t < 91 → I' b (j + t) = I a (i + t)) (hm : Ml I a i ns ct) : Ml I' b j ns ct := by
  obtain ⟨a1, a2, a3, a4, a5⟩ := hm
  refine ⟨?_, a2, ⟨fun k hk => ?_, a3.2⟩, a4, fun e he => ?_⟩
  · have := h 0 (by omega)
    rw [Nat.add_zero, Nat.add_zero] at this
    rw [this]
    exact a1
  · rw [Nat.add_assoc, h (1 + k) (by omega), ← Nat.add_assoc]
    exact a3.1 k hk
  · obtain ⟨b1, b2, b3⟩ := a5 e he
    refine ⟨?_, b2, ⟨fun k hk => ?_, b3.2⟩⟩
    · rw [Nat.add_assoc, h (13 + e) (by omega), ← Nat.add_assoc]
      exact b1
    · rw [show j + 19 + 12 * e + k = j + (19 + 12 * e + k) by omega, h (19 + 12 * e + k) (by omega), show i + (19 + 12 * e + k) = i + 19 + 12 * e + k by omega]
      exact b3.1 k hk
theorem cpN_at (I : Nat → Nat → Int32) {a i b j n t : Nat} (h : t < n) : cpN I a i b j n b (j + t) = I a (i + t) := by
  unfold cpN
  rw [if_pos ⟨rfl, by omega, by omega⟩, Nat.add_sub_cancel_left]
theorem cpN_ne (I : Nat → Nat → Int32) {a i b j n x : Nat} (h : x ≠ b) : cpN I a i b j n x = I x := by
  funext k
  unfold cpN
  rw [if_neg (fun q => h q.1)]
theorem cpN_out (I : Nat → Nat → Int32) {a i b j n k : Nat} (h : k < j ∨ j + n ≤ k) : cpN I a i b j n b k = I b k := by
  unfold cpN
  rw [if_neg (fun q => by omega)]
section MD15
variable {d L : Nat} {I : Nat → Nat → Int32} {J : Nat → Nat → Int64} {ns : List (List Nat)} {ct : List Nat} {ps : List Cp} {im : Nat → Option Cp} {tx : List Nat} {tr : Int64}
theorem MdR_sc {I' : Nat → Nat → Int32} (h : MdR I J ns ct ps im tx tr) (F : FrM I I') : MdR I' J ns ct ps im tx tr := by
  obtain ⟨a1, a2, a3, a4, a5, a6⟩ := h
  exact ⟨by rw [F.2 0 (by omega)]; exact a1, Ml_fr (F.1 249 (by omega)) a2, PmR_fr (F.2 3 (by omega)) (F.1 250 (by omega)) a3, ImM_fr (F.1 252 (by omega)) (F.1 251 (by omega)) a4, TxM_fr (F.2 7 (by omega)) (F.1 253 (by omega)) a5, a6⟩
/-- only the past changes -/
def FrP (I I' : Nat → Nat → Int32) : Prop := (∀ a, a ≠ 248 → a ≠ 250 → I' a = I a) ∧ ∀ k, k ≠ 3 → I' 248 k = I 248 k
theorem FrP_R {I I' : Nat → Nat → Int32} (h : FrP I I') : FrR 248 262 I I' := fun a p => h.1 a (by omega) (by omega)
theorem PmR_push {I' : Nat → Nat → Int32} {n s : Nat} (hp : PmR I ps) (hm : Ml I 249 0 ns ct) (hn : n + 1 = min (ps.length + 1) 10) (hs : s + n = ps.length) (h3 : I' 248 3 = nI (n + 1)) (h1 : ∀ t, t < 91 → I' 250 (91 * n + t) = I 249 t) (h2 : ∀ i, i < n → ∀ t, t < 91 → I' 250 (91 * i + t) = I 250 (91 * (i + s) + t)) : PmR I' (((ns, ct) :: ps).take 10) := by
  obtain ⟨p1, p2, p3⟩ := hp
  have hlen : (((ns, ct) :: ps).take 10).length = n + 1 := by rw [List.length_take, List.length_cons]; omega
  refine ⟨by rw [hlen]; exact h3, by omega, fun i hi => ?_⟩
  rw [hlen] at hi ⊢
  have e : (((ns, ct) :: ps).take 10).getD i cp0 = ((ns, ct) :: ps).getD i cp0 := by
    rw [List.getD_eq_getElem?_getD, List.getD_eq_getElem?_getD, List.getElem?_take, if_pos (by omega)]
  rw [e]
  cases i with
  | zero =>
    refine Ml_mv (a := 249) (i := 0) (fun t ht => ?_) hm
    rw [Nat.zero_add, show n + 1 - 1 - 0 = n by omega]
    exact h1 t ht
  | succ i =>
    show Ml I' 250 (91 * (n + 1 - 1 - (i + 1))) (ps.getD i cp0).1 (ps.getD i cp0).2
    refine Ml_mv (a := 250) (i := 91 * (ps.length - 1 - i)) (fun t ht => ?_) (p3 i (by omega))
    rw [h2 (n + 1 - 1 - (i + 1)) (by omega) t ht, show n + 1 - 1 - (i + 1) + s = ps.length - 1 - i by omega]
def shN (I : Nat → Nat → Int32) (n : Nat) : Nat → Nat → Int32 := fun x k => if x = 250 ∧ k < n then I 250 (k + 91) else I x k
theorem shN_s (I : Nat → Nat → Int32) (n : Nat) : up2 (shN I n) 250 n (shN I n 250 (n + 91)) = shN I (n + 1) := by
  have e : shN I n 250 (n + 91) = I 250 (n + 91) := by unfold shN; rw [if_neg (fun q => by omega)]
  rw [e]
  funext x k
  unfold up2 shN
  by_cases c : x = 250 ∧ k = n
  · rw [if_pos c, if_pos ⟨c.1, by omega⟩, c.2]
  · rw [if_neg c]
    by_cases c2 : x = 250 ∧ k < n
    · rw [if_pos c2, if_pos ⟨c2.1, by omega⟩]
    · rw [if_neg c2, if_neg (fun q => c2 ⟨q.1, by
        have : ¬ k = n := fun r => c ⟨q.1, r⟩
        omega⟩)]
theorem m_rem_loop (Q : Option Value → Mem → Prop) : ∀ n k, k + n = 819 → (Wn (d + 1) i_MD_remember 11 [(0, .ref 248), (1, .int (nI k))] [] (mm L (shN I k) J) Q ↔ Wn (d + 1) i_MD_remember 11 [(0, .ref 248), (1, .int (nI 819))] [] (mm L (shN I 819) J) Q) := by
  intro n
  induction n with
  | zero =>
    intro k hk
    rw [show k = 819 by omega]
  | succ n ih =>
    intro k hk
    have e : nI k < nI 819 := nI_lt (by omega) (by omega)
    have e : nI k < 819 := e
    have e91 : nI k + 91 = nI (k + 91) := nI_add k 91
    rw [← ih (k + 1) (by omega), H_MD_remember_11, if_pos e]
    simp only [mm_C, mm_R, mm_L, mm_I, mm_sI, CL248, CL249, CL250, CL251, CL252, CL253, CL254, CL255, CL256, CL257, CL258, CL259, CL260, CL261, RR248_1, RR248_2, RR248_4, RR248_5, RR248_6, RR248_9, RR248_11, RR248_13, RR248_14, RR248_15, RR248_16, RR248_17, RR248_19, n249, n250, n251, n252, n253, n254, n255, n256, n257, n258, n259, n260, n261, LN249, LN250, LN251, LN252, LN253, LN254, LN255, LN256, LN257, LN258, LN259, LN260, LN261, ↓reduceIte, e91]
    rw [if_pos ⟨by decide, inb_nI (by omega) (by omega)⟩, if_pos ⟨trivial, inb_nI (by omega) (by omega)⟩, ix_nI (by omega), ix_nI (by omega), shN_s, nI_1]
theorem MdR_rem {I' : Nat → Nat → Int32} (h : MdR I J ns ct ps im tx tr) (F : FrP I I') (hp : PmR I' (((ns, ct) :: ps).take 10)) : MdR I' J ns ct (((ns, ct) :: ps).take 10) im tx tr := by
  obtain ⟨a1, a2, a3, a4, a5, a6⟩ := h
  exact ⟨by rw [F.2 0 (by omega)]; exact a1, Ml_fr (F.1 249 (by omega) (by omega)) a2, hp, ImM_fr (F.1 252 (by omega) (by omega)) (F.1 251 (by omega) (by omega)) a4, TxM_fr (F.2 7 (by omega)) (F.1 253 (by omega) (by omega)) a5, a6⟩
theorem e91 (n : Nat) : (91 : Int32) * nI n = nI (91 * n) := pk_mul 91 n
theorem m_copC {I : Nat → Nat → Int32} {a i b j la lb : Nat} {Q : Mem → Prop} (hab : a ≠ b) (ha : CL a = 10) (hb : CL b = 10) (hla : LN L a = la) (hlb : LN L b = lb) (hi : i + 91 ≤ la) (hj : j + 91 ≤ lb) (h1 : la < 2000) (h2 : lb < 2000) (hQ : Q (mm L (cpN I a i b j 91) J)) : WV d i_MD_copies [.ref a, .int (nI i), .ref b, .int (nI j)] (mm L I J) Q := (m_copies hab ha hb hla hlb hi hj h1 h2 Q).mpr hQ
theorem m_rem (h : MdR I J ns ct ps im tx tr) (Q : Mem → Prop) (hQ : ∀ I', MdR I' J ns ct (((ns, ct) :: ps).take 10) im tx tr → FrP I I' → Q (mm L I' J)) : WV (d + 1) i_MD_remember [.ref 248] (mm L I J) Q := by
  obtain ⟨p1, p2, p3⟩ := h.2.2.1
  have i0 : (0 : Int32) = nI 0 := by rw [nI_0]
  rw [E_MD_remember]
  by_cases c : ps.length = 10
  · have e3 : I 248 3 = 10 := by rw [p1, c]; rfl
    simp only [mm_C, mm_R, mm_L, mm_I, mm_sI, CL248, CL249, CL250, CL251, CL252, CL253, CL254, CL255, CL256, CL257, CL258, CL259, CL260, CL261, RR248_1, RR248_2, RR248_4, RR248_5, RR248_6, RR248_9, RR248_11, RR248_13, RR248_14, RR248_15, RR248_16, RR248_17, RR248_19, n249, n250, n251, n252, n253, n254, n255, n256, n257, n258, n259, n260, n261, LN249, LN250, LN251, LN252, LN253, LN254, LN255, LN256, LN257, LN258, LN259, LN260, LN261, ↓reduceIte, e3]
    have := m_rem_loop (d := d) (L := L) (I := I) (J := J) (QV Q) 819 0 (by omega)
    have z : shN I 0 = I := by funext x k; unfold shN; rw [if_neg (fun q => by omega)]
    rw [nI_0, z] at this
    rw [this, H_MD_remember_11, if_neg (by decide)]
    have s3 : shN I 819 248 3 = nI 10 := by unfold shN; rw [if_neg (fun q => by omega), p1, c]
    have e9 : nI 10 - 1 = nI 9 := nI_pred 9
    simp only [mm_C, mm_R, mm_L, mm_I, mm_sI, CL248, CL249, CL250, CL251, CL252, CL253, CL254, CL255, CL256, CL257, CL258, CL259, CL260, CL261, RR248_1, RR248_2, RR248_4, RR248_5, RR248_6, RR248_9, RR248_11, RR248_13, RR248_14, RR248_15, RR248_16, RR248_17, RR248_19, n249, n250, n251, n252, n253, n254, n255, n256, n257, n258, n259, n260, n261, LN249, LN250, LN251, LN252, LN253, LN254, LN255, LN256, LN257, LN258, LN259, LN260, LN261, ↓reduceIte, s3, e9, up2_same, e91]
    rw [i0]
    refine m_copC (by omega) CL249 CL250 (LN249 L) (LN250 L) (by omega) (by omega) (by omega) (by omega) ?_
    have u3 : cpN (up2 (shN I 819) 248 3 (nI 9)) 249 0 250 (91 * 9) 91 248 3 = nI 9 := by rw [cpN_ne _ (by omega), up2_same]
    have m3 : ∀ a, a ≠ 250 → shN I 819 a = I a := fun a ha => by funext k; unfold shN; rw [if_neg (fun q => ha q.1)]
    simp only [mm_C, mm_R, mm_L, mm_I, mm_sI, CL248, CL249, CL250, CL251, CL252, CL253, CL254, CL255, CL256, CL257, CL258, CL259, CL260, CL261, RR248_1, RR248_2, RR248_4, RR248_5, RR248_6, RR248_9, RR248_11, RR248_13, RR248_14, RR248_15, RR248_16, RR248_17, RR248_19, n249, n250, n251, n252, n253, n254, n255, n256, n257, n258, n259, n260, n261, LN249, LN250, LN251, LN252, LN253, LN254, LN255, LN256, LN257, LN258, LN259, LN260, LN261, ↓reduceIte, u3, nI_1]
    have F : FrP I (up2 (cpN (up2 (shN I 819) 248 3 (nI 9)) 249 0 250 (91 * 9) 91) 248 3 (nI (9 + 1))) := by
      refine ⟨fun a h1 h2 => ?_, fun k hk => ?_⟩
      · rw [up2_ne _ _ _ h1, cpN_ne _ h2, up2_ne _ _ _ h1, m3 a h2]
      · rw [up2_other _ _ _ hk, cpN_ne _ (by omega), up2_other _ _ _ hk, m3 248 (by omega)]
    refine hQ _ (MdR_rem h F (PmR_push (n := 9) (s := 1) h.2.2.1 h.2.1 (by omega) (by omega) (up2_same _ _ _ _) (fun t ht => ?_) (fun i hi t ht => ?_))) F
    · rw [up2_ne _ _ _ (by omega), cpN_at _ ht, Nat.zero_add, up2_ne _ _ _ (by omega), m3 249 (by omega)]
    · rw [up2_ne _ _ _ (by omega), cpN_out _ (by omega), up2_ne _ _ _ (by omega)]
      unfold shN
      rw [if_pos ⟨rfl, by omega⟩, show 91 * i + t + 91 = 91 * (i + 1) + t by omega]
  · have e3 : ¬ I 248 3 = nI 10 := by rw [p1]; exact fun q => c ((nI_eq (by omega) (by omega)).mp q)
    have e3 : ¬ I 248 3 = 10 := e3
    simp only [mm_C, mm_R, mm_L, mm_I, mm_sI, CL248, CL249, CL250, CL251, CL252, CL253, CL254, CL255, CL256, CL257, CL258, CL259, CL260, CL261, RR248_1, RR248_2, RR248_4, RR248_5, RR248_6, RR248_9, RR248_11, RR248_13, RR248_14, RR248_15, RR248_16, RR248_17, RR248_19, n249, n250, n251, n252, n253, n254, n255, n256, n257, n258, n259, n260, n261, LN249, LN250, LN251, LN252, LN253, LN254, LN255, LN256, LN257, LN258, LN259, LN260, LN261, ↓reduceIte]
    rw [if_neg e3, p1, e91, i0]
    refine m_copC (by omega) CL249 CL250 (LN249 L) (LN250 L) (by omega) (by omega) (by omega) (by omega) ?_
    have u3 : cpN I 249 0 250 (91 * ps.length) 91 248 3 = nI ps.length := by rw [cpN_ne _ (by omega)]; exact p1
    simp only [mm_C, mm_R, mm_L, mm_I, mm_sI, CL248, CL249, CL250, CL251, CL252, CL253, CL254, CL255, CL256, CL257, CL258, CL259, CL260, CL261, RR248_1, RR248_2, RR248_4, RR248_5, RR248_6, RR248_9, RR248_11, RR248_13, RR248_14, RR248_15, RR248_16, RR248_17, RR248_19, n249, n250, n251, n252, n253, n254, n255, n256, n257, n258, n259, n260, n261, LN249, LN250, LN251, LN252, LN253, LN254, LN255, LN256, LN257, LN258, LN259, LN260, LN261, ↓reduceIte, u3, nI_1]
    have F : FrP I (up2 (cpN I 249 0 250 (91 * ps.length) 91) 248 3 (nI (ps.length + 1))) := by
      refine ⟨fun a h1 h2 => ?_, fun k hk => ?_⟩
      · rw [up2_ne _ _ _ h1, cpN_ne _ h2]
      · rw [up2_other _ _ _ hk, cpN_ne _ (by omega)]
    refine hQ _ (MdR_rem h F (PmR_push (n := ps.length) (s := 0) h.2.2.1 h.2.1 (by omega) (by omega) (up2_same _ _ _ _) (fun t ht => ?_) (fun i hi t ht => ?_))) F
    · rw [up2_ne _ _ _ (by omega), cpN_at _ ht, Nat.zero_add]
    · rw [up2_ne _ _ _ (by omega), cpN_out _ (by omega), Nat.add_zero]
end MD15
