/-! ===== the model: cold hands, porridge, kinds ===== -/
def bitN (r e : Nat) : Nat := r / 2 ^ e % 2
theorem bit_F : ∀ r : Fin 64, ∀ e : Fin 6, (nI r.1 >>> (nI e.1 &&& 31)) &&& (1 : Int32) = nI (bitN r.1 e.1) := by decide +kernel
def tieB (r : Nat) : Nat → Nat → List Nat → List Nat
  | 0, _, l => l
  | m + 1, e, l => tieB r m (e + 1) (tie l (bitN r e))
def wyB (p r : Nat) : Nat → Nat → Nat → Nat
  | 0, _, s => s
  | m + 1, e, s => wyB p r m (e + 1) (s * (if bitN r e = 0 then p else 10 - p))
def porM (p n k : Nat) : Nat → Nat → Nat → Nat
  | 0, _, s => s
  | m + 1, r, s => porM p n k m (r + 1) (if (tieB r n 0 []).length = k then s + wyB p r n 0 1 else s)
theorem por_eq : ∀ n : Fin 7, ∀ p : Fin 11, ∀ k : Fin 7, porM p.1 n.1 k.1 (2 ^ n.1) 0 0 = porU p.1 n.1 k.1 (2 ^ n.1) 0 0 ∧ porM p.1 n.1 k.1 (2 ^ n.1) 0 0 < 2 ^ 60 := by decide +kernel
theorem lea_0 : ∀ n : Fin 13, lN 0 / lN (Nat.gcd (10 ^ n.1) 0) = lN 0 / lN (Nat.gcd 1 0) ∧ lN (10 ^ n.1) / lN (Nat.gcd (10 ^ n.1) 0) = lN 1 / lN (Nat.gcd 1 0) := by decide +kernel
theorem lea_01 {n : Nat} (h : n ≤ 12) (w : Int32) : lea 0 (10 ^ n) w = lea 0 1 w := by
  obtain ⟨a, b⟩ := lea_0 ⟨n, by omega⟩
  have a : lN 0 / lN (Nat.gcd (10 ^ n) 0) = lN 0 / lN (Nat.gcd 1 0) := a
  have b : lN (10 ^ n) / lN (Nat.gcd (10 ^ n) 0) = lN 1 / lN (Nat.gcd 1 0) := b
  unfold lea
  rw [a, b]
section MD19
variable {d L : Nat} {I : Nat → Nat → Int32} {J : Nat → Nat → Int64} {ns : List (List Nat)} {ct : List Nat} {ps : List Cp} {im : Nat → Option Cp} {tx : List Nat} {tr : Int64}
theorem m_turnAny {j k : Nat} (hj : j < 6) (hk : k < 12) (Q : Int32 → Mem → Prop) : WI d i_MD_turnAt [.ref 248, .int (nI j), .int (nI k)] (mm L I J) Q ↔ Q (I 249 (19 + 12 * j + k)) (mm L I J) := by
  rw [E_MD_turnAt, e19, nI_add]
  simp only [mm_C, mm_R, mm_L, mm_I, mm_sI, CL248, CL249, CL250, CL251, CL252, CL253, CL254, CL255, CL256, CL257, CL258, CL259, CL260, CL261, RR248_1, RR248_2, RR248_4, RR248_5, RR248_6, RR248_9, RR248_11, RR248_13, RR248_14, RR248_15, RR248_16, RR248_17, RR248_19, n249, n250, n251, n252, n253, n254, n255, n256, n257, n258, n259, n260, n261, LN249, LN250, LN251, LN252, LN253, LN254, LN255, LN256, LN257, LN258, LN259, LN260, LN261, ↓reduceIte]
  rw [if_pos ⟨by decide, inb_nI (by omega) (by omega)⟩, ix_nI (by omega)]
theorem m_coldE_loop (h : Ml I 249 0 ns ct) {a b p : Nat} (ha : a < ns.length) (hb : b < ns.length) (hp : p ≤ 10) (hl : (nmO ns a).length = (nmO ns b).length) (w : Int32) (Q : Option Value → Mem → Prop) : ∀ n k s, k + n = (nmO ns a).length → s ≤ 10 ^ k →
    (Wn (d + 1) i_MD_cold 74 [(0, .ref 248), (1, .int (nI a)), (2, .int (nI b)), (3, .int (nI p)), (4, .int w), (5, .long (lN s)), (7, .long (lN (10 ^ k))), (9, .int (nI k))] [] (mm L I J) Q ↔ Q (some (.long (lea (upr (nmO ns a) (nmO ns b) p n k s) (10 ^ (nmO ns a).length) w))) (mm L I J)) := by
  have h6 := h.2.2.2.1
  have la := mle h ha
  have e6 : (6 : Int32) = nI 6 := by decide
  have e10 : (10 : Int32) = nI 10 := by decide
  have f10 : ∀ x : Nat, lN x * 10 = lN (x * 10) := fun x => by
    have : (10 : Int64) = lN 10 := by decide
    rw [this, lN_mul]
  intro n
  induction n with
  | zero =>
    intro k s hk hs
    have q1 := p10 la
    have q2 : 10 ^ k ≤ 10 ^ 12 := p10 (by omega)
    have q3 : 0 < 10 ^ k := Nat.pow_pos (by omega)
    rw [H_MD_cold_74, e13]
    simp only [mm_C, mm_R, mm_L, mm_I, mm_sI, CL248, CL249, CL250, CL251, CL252, CL253, CL254, CL255, CL256, CL257, CL258, CL259, CL260, CL261, RR248_1, RR248_2, RR248_4, RR248_5, RR248_6, RR248_9, RR248_11, RR248_13, RR248_14, RR248_15, RR248_16, RR248_17, RR248_19, n249, n250, n251, n252, n253, n254, n255, n256, n257, n258, n259, n260, n261, LN249, LN250, LN251, LN252, LN253, LN254, LN255, LN256, LN257, LN258, LN259, LN260, LN261, ↓reduceIte]
    rw [if_pos (ok13 (by omega)), mlen h ha, if_neg (nI_nlt (by omega) (by omega)), m_lea (by omega) (by omega) q3, show (nmO ns a).length = k by omega]
    rfl
  | succ n ih =>
    intro k s hk hs
    have x1 := m6 h ha (show k < (nmO ns a).length by omega)
    have x2 := m6 h hb (show k < (nmO ns b).length by omega)
    have m := Nat.mod_lt ((nmO ns a).getD k 0 + 1) (show 0 < 6 by omega)
    have x3 := tkf_le (x := (nmO ns a).getD k 0) (y := (nmO ns b).getD k 0) hp
    have bd : ∀ v, v ≤ 10 → s * v ≤ 10 ^ (k + 1) := fun v hv => by rw [Nat.pow_succ]; exact Nat.mul_le_mul hs hv
    rw [H_MD_cold_74, e13]
    simp only [mm_C, mm_R, mm_L, mm_I, mm_sI, CL248, CL249, CL250, CL251, CL252, CL253, CL254, CL255, CL256, CL257, CL258, CL259, CL260, CL261, RR248_1, RR248_2, RR248_4, RR248_5, RR248_6, RR248_9, RR248_11, RR248_13, RR248_14, RR248_15, RR248_16, RR248_17, RR248_19, n249, n250, n251, n252, n253, n254, n255, n256, n257, n258, n259, n260, n261, LN249, LN250, LN251, LN252, LN253, LN254, LN255, LN256, LN257, LN258, LN259, LN260, LN261, ↓reduceIte]
    rw [if_pos (ok13 (by omega)), mlen h ha, if_pos (nI_lt (by omega) (by omega)), m_turnAt h ha (by omega), mm_C, if_pos CL248, m_turnAt h hb (by omega), f10, ← Nat.pow_succ, nI_1, nI_1, e6, pk_rem (by omega) (by omega) (by omega)]
    unfold upr
    by_cases c1 : (nmO ns a).getD k 0 = (nmO ns b).getD k 0
    · have et : tkf (g0 (nmO ns a) k) (g0 (nmO ns b) k) p = 10 - p := by unfold tkf g0; rw [if_pos c1]
      rw [if_pos (by rw [c1]), e10, pk_sub hp, nI_l (by omega), lN_mul, ih (k + 1) _ (by omega) (bd _ (by omega)), et]
    · rw [if_neg (fun q => c1 ((nI_eq (by omega) (by omega)).mp q).symm)]
      by_cases c2 : (nmO ns b).getD k 0 = ((nmO ns a).getD k 0 + 1) % 6
      · have et : tkf (g0 (nmO ns a) k) (g0 (nmO ns b) k) p = p := by unfold tkf g0; rw [if_neg c1, if_pos c2]
        rw [if_pos (by rw [← c2]), nI_l (by omega), lN_mul, ih (k + 1) _ (by omega) (bd _ hp), et]
      · have et : tkf (g0 (nmO ns a) k) (g0 (nmO ns b) k) p = 0 := by unfold tkf g0; rw [if_neg c1, if_neg c2]
        rw [if_neg (fun q => c2 ((nI_eq (by omega) (by omega)).mp q)), ← lN_0, lN_mul, ih (k + 1) _ (by omega) (bd _ (by omega)), et]
theorem m_coldD_loop (h : Ml I 249 0 ns ct) {a b p : Nat} (ha : a < ns.length) (hb : b < ns.length) (w : Int32) (Q : Option Value → Mem → Prop) : ∀ n k, k + n = (nmO ns a).length →
    (Wn (d + 1) i_MD_cold 74 [(0, .ref 248), (1, .int (nI a)), (2, .int (nI b)), (3, .int (nI p)), (4, .int w), (5, .long 0), (7, .long (lN (10 ^ k))), (9, .int (nI k))] [] (mm L I J) Q ↔ Q (some (.long (lea 0 (10 ^ (nmO ns a).length) w))) (mm L I J)) := by
  have h6 := h.2.2.2.1
  have la := mle h ha
  have f10 : ∀ x : Nat, lN x * 10 = lN (x * 10) := fun x => by
    have : (10 : Int64) = lN 10 := by decide
    rw [this, lN_mul]
  intro n
  induction n with
  | zero =>
    intro k hk
    have q2 : 10 ^ k ≤ 10 ^ 12 := p10 (by omega)
    have q3 : 0 < 10 ^ k := Nat.pow_pos (by omega)
    rw [H_MD_cold_74, e13]
    simp only [mm_C, mm_R, mm_L, mm_I, mm_sI, CL248, CL249, CL250, CL251, CL252, CL253, CL254, CL255, CL256, CL257, CL258, CL259, CL260, CL261, RR248_1, RR248_2, RR248_4, RR248_5, RR248_6, RR248_9, RR248_11, RR248_13, RR248_14, RR248_15, RR248_16, RR248_17, RR248_19, n249, n250, n251, n252, n253, n254, n255, n256, n257, n258, n259, n260, n261, LN249, LN250, LN251, LN252, LN253, LN254, LN255, LN256, LN257, LN258, LN259, LN260, LN261, ↓reduceIte]
    rw [if_pos (ok13 (by omega)), mlen h ha, if_neg (nI_nlt (by omega) (by omega)), ← lN_0, m_lea (by omega) (by omega) q3, show (nmO ns a).length = k by omega]
  | succ n ih =>
    intro k hk
    rw [H_MD_cold_74, e13]
    simp only [mm_C, mm_R, mm_L, mm_I, mm_sI, CL248, CL249, CL250, CL251, CL252, CL253, CL254, CL255, CL256, CL257, CL258, CL259, CL260, CL261, RR248_1, RR248_2, RR248_4, RR248_5, RR248_6, RR248_9, RR248_11, RR248_13, RR248_14, RR248_15, RR248_16, RR248_17, RR248_19, n249, n250, n251, n252, n253, n254, n255, n256, n257, n258, n259, n260, n261, LN249, LN250, LN251, LN252, LN253, LN254, LN255, LN256, LN257, LN258, LN259, LN260, LN261, ↓reduceIte]
    rw [if_pos (ok13 (by omega)), mlen h ha, if_pos (nI_lt (by omega) (by omega)), m_turnAt h ha (by omega), mm_C, if_pos CL248, m_turnAny (by omega) (by omega), f10, ← Nat.pow_succ, nI_1 k, Int64.zero_mul, Int64.zero_mul, Int64.zero_mul, ih (k + 1) (by omega), ite_self, ite_self]
theorem m_coldN1 (h : MdR I J ns ct ps im tx tr) {x y z w : Int32} (hx : x < 0 ∨ nI ns.length ≤ x) (Q : Int64 → Mem → Prop) : WL (d + 2) i_MD_cold [.ref 248, .int x, .int y, .int z, .int w] (mm L I J) Q ↔ Q (-1) (mm L I J) := by
  rw [E_MD_cold, mm_C, if_pos CL248, m_herdN h hx, if_pos rfl]
theorem m_coldN2 (h : MdR I J ns ct ps im tx tr) {a : Nat} (ha : a < ns.length) {y z w : Int32} (hy : y < 0 ∨ nI ns.length ≤ y) (Q : Int64 → Mem → Prop) : WL (d + 2) i_MD_cold [.ref 248, .int (nI a), .int y, .int z, .int w] (mm L I J) Q ↔ Q (-1) (mm L I J) := by
  rw [E_MD_cold, mm_C, if_pos CL248, m_herdY h ha, if_neg i10, mm_C, if_pos CL248, m_herdN h hy, if_pos rfl]
theorem m_coldN3 (h : MdR I J ns ct ps im tx tr) {a b : Nat} (ha : a < ns.length) (hb : b < ns.length) {z w : Int32} (hz : z < 0 ∨ 10 < z) (Q : Int64 → Mem → Prop) : WL (d + 2) i_MD_cold [.ref 248, .int (nI a), .int (nI b), .int z, .int w] (mm L I J) Q ↔ Q (-1) (mm L I J) := by
  rw [E_MD_cold, mm_C, if_pos CL248, m_herdY h ha, if_neg i10, mm_C, if_pos CL248, m_herdY h hb, if_neg i10, q0, q10, m_in, nw_12 hz, if_pos (by rfl)]
theorem m_coldN4 (h : MdR I J ns ct ps im tx tr) {a b p : Nat} (ha : a < ns.length) (hb : b < ns.length) (hp : p ≤ 10) {w : Int32} (hw : w < 0 ∨ 1 < w) (Q : Int64 → Mem → Prop) : WL (d + 2) i_MD_cold [.ref 248, .int (nI a), .int (nI b), .int (nI p), .int w] (mm L I J) Q ↔ Q (-1) (mm L I J) := by
  rw [E_MD_cold, mm_C, if_pos CL248, m_herdY h ha, if_neg i10, mm_C, if_pos CL248, m_herdY h hb, if_neg i10, q0, q10, m_in, le10 hp, if_neg (by decide), m_isTwo, nw_12 hw, if_pos (by rfl)]
theorem m_coldY (h : MdR I J ns ct ps im tx tr) {a b p m : Nat} (ha : a < ns.length) (hb : b < ns.length) (hp : p ≤ 10) (hm : m < 2) (Q : Int64 → Mem → Prop) : WL (d + 2) i_MD_cold [.ref 248, .int (nI a), .int (nI b), .int (nI p), .int (nI m)] (mm L I J) Q ↔ Q (coldA (nmO ns a) (nmO ns b) p (nI m)) (mm L I J) := by
  have h6 := h.2.1.2.2.2.1
  have la := mle h.2.1 ha
  have lb := mle h.2.1 hb
  rw [E_MD_cold, mm_C, if_pos CL248, m_herdY h ha, if_neg i10, mm_C, if_pos CL248, m_herdY h hb, if_neg i10, q0, q10, m_in, le10 hp, if_neg (by decide), m_isTwo, w01 hm, if_neg (by decide), e13, e13]
  simp only [mm_C, mm_R, mm_L, mm_I, mm_sI, CL248, CL249, CL250, CL251, CL252, CL253, CL254, CL255, CL256, CL257, CL258, CL259, CL260, CL261, RR248_1, RR248_2, RR248_4, RR248_5, RR248_6, RR248_9, RR248_11, RR248_13, RR248_14, RR248_15, RR248_16, RR248_17, RR248_19, n249, n250, n251, n252, n253, n254, n255, n256, n257, n258, n259, n260, n261, LN249, LN250, LN251, LN252, LN253, LN254, LN255, LN256, LN257, LN258, LN259, LN260, LN261, ↓reduceIte]
  rw [if_pos (ok13 (by omega)), if_pos (ok13 (by omega)), mlen h.2.1 ha, mlen h.2.1 hb]
  unfold coldA
  by_cases e : (nmO ns a).length = (nmO ns b).length
  · rw [if_pos (by rw [e]), if_pos e]
    have := m_coldE_loop (d := d + 1) (L := L) (J := J) h.2.1 ha hb hp e (nI m) (QL Q) (nmO ns a).length 0 1 (by omega) (Nat.le_refl _)
    rw [nI_0] at this
    exact this
  · rw [if_neg (fun q => e ((nI_eq (by omega) (by omega)).mp q)), if_neg e]
    have := m_coldD_loop (d := d + 1) (L := L) (J := J) (p := p) h.2.1 ha hb (nI m) (QL Q) (nmO ns a).length 0 (by omega)
    rw [nI_0, lea_01 la] at this
    exact this
theorem tieB_len (r : Nat) : ∀ m e l, (tieB r m e l).length ≤ l.length + m := by
  intro m
  induction m with
  | zero => intro e l; exact Nat.le_refl _
  | succ m ih =>
    intro e l
    unfold tieB
    have h1 := ih (e + 1) (tie l (bitN r e))
    have h2 := tie_len l (bitN r e)
    omega
theorem m_por_in {p n k r S b : Nat} (hp : p ≤ 10) (hn : n ≤ 6) (hk : k ≤ 6) (hr : r < 64) (w : Int32) (Q : Option Value → Mem → Prop) : ∀ (m e : Nat) (I1 : Nat → Nat → Int32) (l : List Nat) (s : Nat), e + m = n → Cd I1 l → l.length ≤ e →
    (∀ I', FrM I1 I' → Wn (d + 1) i_MD_porridge 78 [(0, .ref 248), (1, .int (nI p)), (2, .int (nI n)), (3, .int (nI k)), (4, .int w), (5, .long (lN (if (tieB r m e l).length = k then S + wyB p r m e s else S))), (7, .long (lN b)), (9, .int (nI (r + 1)))] [] (mm L I' J) Q) →
    Wn (d + 1) i_MD_porridge 97 [(0, .ref 248), (1, .int (nI p)), (2, .int (nI n)), (3, .int (nI k)), (4, .int w), (5, .long (lN S)), (7, .long (lN b)), (9, .int (nI r)), (10, .long (lN s)), (12, .int (nI e))] [] (mm L I1 J) Q := by
  have e10 : (10 : Int32) = nI 10 := by decide
  intro m
  induction m with
  | zero =>
    intro e I1 l s he hc hl hQ
    rw [H_MD_porridge_97, if_neg (nI_nlt (by omega) (by omega)), nI_1 r]
    simp only [mm_C, mm_R, mm_L, mm_I, mm_sI, CL248, CL249, CL250, CL251, CL252, CL253, CL254, CL255, CL256, CL257, CL258, CL259, CL260, CL261, RR248_1, RR248_2, RR248_4, RR248_5, RR248_6, RR248_9, RR248_11, RR248_13, RR248_14, RR248_15, RR248_16, RR248_17, RR248_19, n249, n250, n251, n252, n253, n254, n255, n256, n257, n258, n259, n260, n261, LN249, LN250, LN251, LN252, LN253, LN254, LN255, LN256, LN257, LN258, LN259, LN260, LN261, ↓reduceIte, hc.1]
    unfold tieB wyB at hQ
    by_cases c : l.length = k
    · rw [if_pos (by rw [c]), lN_add]
      have := hQ I1 (FrM_rf I1)
      rw [if_pos c] at this
      exact this
    · rw [if_neg (fun q => c ((nI_eq (by omega) (by omega)).mp q)), ← lN_0, lN_add]
      have := hQ I1 (FrM_rf I1)
      rw [if_neg c] at this
      exact this
  | succ m ih =>
    intro e I1 l s he hc hl hQ
    have bt : (nI r >>> (nI e &&& 31)) &&& (1 : Int32) = nI (bitN r e) := bit_F ⟨r, hr⟩ ⟨e, by omega⟩
    have b2 : bitN r e < 2 := Nat.mod_lt _ (by omega)
    have tl := tie_len l (bitN r e)
    rw [H_MD_porridge_97, if_pos (nI_lt (by omega) (by omega)), bt, nI_1 e]
    simp only [mm_C, mm_R, mm_L, mm_I, mm_sI, CL248, CL249, CL250, CL251, CL252, CL253, CL254, CL255, CL256, CL257, CL258, CL259, CL260, CL261, RR248_1, RR248_2, RR248_4, RR248_5, RR248_6, RR248_9, RR248_11, RR248_13, RR248_14, RR248_15, RR248_16, RR248_17, RR248_19, n249, n250, n251, n252, n253, n254, n255, n256, n257, n258, n259, n260, n261, LN249, LN250, LN251, LN252, LN253, LN254, LN255, LN256, LN257, LN258, LN259, LN260, LN261, ↓reduceIte]
    unfold tieB wyB at hQ
    by_cases c : bitN r e = 0
    · rw [if_pos ((nI_z (by omega)).mpr c)]
      refine m_tie hc (by omega) (by omega) _ (fun I2 f1 f2 => ?_)
      rw [nI_l (by omega), lN_mul]
      refine ih (e + 1) I2 _ _ (by omega) f1 (by omega) (fun I' g => ?_)
      have := hQ I' (FrM_tr (FrM_K f2) g)
      rw [if_pos c] at this
      exact this
    · rw [if_neg (fun q => c ((nI_z (by omega)).mp q))]
      refine m_tie hc (by omega) (by omega) _ (fun I2 f1 f2 => ?_)
      rw [e10, pk_sub hp, nI_l (by omega), lN_mul]
      refine ih (e + 1) I2 _ _ (by omega) f1 (by omega) (fun I' g => ?_)
      have := hQ I' (FrM_tr (FrM_K f2) g)
      rw [if_neg c] at this
      exact this
theorem m_por_out {p n k : Nat} (hp : p ≤ 10) (hn : n ≤ 6) (hk : k ≤ 6) (w : Int32) (Q : Option Value → Mem → Prop) : ∀ (m r : Nat) (I1 : Nat → Nat → Int32) (s : Nat), r + m = 2 ^ n → porM p n k m r s < 2 ^ 60 → (∀ I', FrM I1 I' → Q (some (.int (Int64.toInt32 (lea (porM p n k m r s) (10 ^ n) w)))) (mm L I' J)) →
    Wn (d + 1) i_MD_porridge 78 [(0, .ref 248), (1, .int (nI p)), (2, .int (nI n)), (3, .int (nI k)), (4, .int w), (5, .long (lN s)), (7, .long (lN (10 ^ n))), (9, .int (nI r))] [] (mm L I1 J) Q := by
  obtain ⟨s1, s2⟩ := shl_F ⟨n, by omega⟩
  have s1 : (1 : Int32) <<< (nI n &&& 31) = nI (2 ^ n) := s1
  have s2 : 2 ^ n ≤ 64 := s2
  intro m
  induction m with
  | zero =>
    intro r I1 s hr hb hQ
    have q1 : 10 ^ n ≤ 10 ^ 6 := Nat.pow_le_pow_right (by omega) hn
    have q3 : 0 < 10 ^ n := Nat.pow_pos (by omega)
    unfold porM at hb hQ
    rw [H_MD_porridge_78, s1, if_neg (nI_nlt (by omega) (by omega)), m_lea hb (by omega) q3]
    exact hQ I1 (FrM_rf I1)
  | succ m ih =>
    intro r I1 s hr hb hQ
    rw [H_MD_porridge_78, s1, if_pos (nI_lt (by omega) (by omega))]
    simp only [mm_C, mm_R, mm_L, mm_I, mm_sI, CL248, CL249, CL250, CL251, CL252, CL253, CL254, CL255, CL256, CL257, CL258, CL259, CL260, CL261, RR248_1, RR248_2, RR248_4, RR248_5, RR248_6, RR248_9, RR248_11, RR248_13, RR248_14, RR248_15, RR248_16, RR248_17, RR248_19, n249, n250, n251, n252, n253, n254, n255, n256, n257, n258, n259, n260, n261, LN249, LN250, LN251, LN252, LN253, LN254, LN255, LN256, LN257, LN258, LN259, LN260, LN261, ↓reduceIte]
    have F0 : FrM I1 (up2 I1 248 10 0) := FrM_K FrK_0
    unfold porM at hb hQ
    have := m_por_in (d := d) (L := L) (J := J) (p := p) (n := n) (k := k) (r := r) (S := s) (b := 10 ^ n) hp hn hk (by omega) w Q n 0 (up2 I1 248 10 0) [] 1 (by omega) Cd_0 (Nat.le_refl _) (fun I' g => ih (r + 1) I' _ (by omega) hb (fun I'' g2 => hQ I'' (FrM_tr F0 (FrM_tr g g2))))
    rw [nI_0] at this
    exact this
theorem m_por_pow {p n k : Nat} (hn : n ≤ 6) (w : Int32) (v : Int64) (Q : Option Value → Mem → Prop) (M : Mem) : ∀ m e, e + m = n →
    (Wn (d + 1) i_MD_porridge 55 [(0, .ref 248), (1, .int (nI p)), (2, .int (nI n)), (3, .int (nI k)), (4, .int w), (5, .long v), (7, .long (lN (10 ^ e))), (9, .int (nI e))] [] M Q ↔ Wn (d + 1) i_MD_porridge 78 [(0, .ref 248), (1, .int (nI p)), (2, .int (nI n)), (3, .int (nI k)), (4, .int w), (5, .long v), (7, .long (lN (10 ^ n))), (9, .int 0)] [] M Q) := by
  have f10 : ∀ x : Nat, lN x * 10 = lN (x * 10) := fun x => by
    have : (10 : Int64) = lN 10 := by decide
    rw [this, lN_mul]
  intro m
  induction m with
  | zero =>
    intro e he
    rw [H_MD_porridge_55, if_neg (nI_nlt (by omega) (by omega)), show e = n by omega]
  | succ m ih =>
    intro e he
    rw [H_MD_porridge_55, if_pos (nI_lt (by omega) (by omega)), f10, ← Nat.pow_succ, nI_1, ih (e + 1) (by omega)]
theorem m_porN1 {x y z w : Int32} {M : Mem} (hx : x < 0 ∨ 10 < x) (Q : Int32 → Mem → Prop) : WI (d + 1) i_MD_porridge [.ref 248, .int x, .int y, .int z, .int w] M Q ↔ Q (-1) M := by
  rw [E_MD_porridge, q0, q10, m_in, nw_12 hx, if_pos (by rfl)]
theorem m_porN2 {p : Nat} {M : Mem} (hp : p ≤ 10) {y z w : Int32} (hy : y < 0 ∨ 6 < y) (Q : Int32 → Mem → Prop) : WI (d + 1) i_MD_porridge [.ref 248, .int (nI p), .int y, .int z, .int w] M Q ↔ Q (-1) M := by
  rw [E_MD_porridge, q0, q10, m_in, le10 hp, if_neg (by decide), q6, m_in, nw_12 hy, if_pos (by rfl)]
theorem m_porN3 {p n : Nat} {M : Mem} (hp : p ≤ 10) (hn : n ≤ 6) {z w : Int32} (hz : z < 0 ∨ 6 < z) (Q : Int32 → Mem → Prop) : WI (d + 1) i_MD_porridge [.ref 248, .int (nI p), .int (nI n), .int z, .int w] M Q ↔ Q (-1) M := by
  rw [E_MD_porridge, q0, q10, m_in, le10 hp, if_neg (by decide), q6, m_in, le06 hn, if_neg (by decide), m_in, nw_12 hz, if_pos (by rfl)]
theorem m_porN4 {p n k : Nat} {M : Mem} (hp : p ≤ 10) (hn : n ≤ 6) (hk : k ≤ 6) {w : Int32} (hw : w < 0 ∨ 1 < w) (Q : Int32 → Mem → Prop) : WI (d + 2) i_MD_porridge [.ref 248, .int (nI p), .int (nI n), .int (nI k), .int w] M Q ↔ Q (-1) M := by
  rw [E_MD_porridge, q0, q10, m_in, le10 hp, if_neg (by decide), q6, m_in, le06 hn, if_neg (by decide), m_in, le06 hk, if_neg (by decide), m_isTwo, nw_12 hw, if_pos (by rfl)]
theorem m_porY (h : MdR I J ns ct ps im tx tr) {p n k m : Nat} (hp : p ≤ 10) (hn : n ≤ 6) (hk : k ≤ 6) (hm : m < 2) (Q : Int32 → Mem → Prop) (hQ : ∀ I', MdR I' J ns ct ps im tx tr → FrR 248 262 I I' → Q (Int64.toInt32 (lea (porU p n k (2 ^ n) 0 0) (10 ^ n) (nI m))) (mm L I' J)) : WI (d + 2) i_MD_porridge [.ref 248, .int (nI p), .int (nI n), .int (nI k), .int (nI m)] (mm L I J) Q := by
  obtain ⟨e1, e2⟩ := por_eq ⟨n, by omega⟩ ⟨p, by omega⟩ ⟨k, by omega⟩
  have e1 : porM p n k (2 ^ n) 0 0 = porU p n k (2 ^ n) 0 0 := e1
  have e2 : porM p n k (2 ^ n) 0 0 < 2 ^ 60 := e2
  rw [E_MD_porridge, q0, q10, m_in, le10 hp, if_neg (by decide), q6, m_in, le06 hn, if_neg (by decide), m_in, le06 hk, if_neg (by decide), m_isTwo, w01 hm, if_neg (by decide), ← q0]
  have pw := m_por_pow (d := d + 1) (p := p) (n := n) (k := k) hn (nI m) 0 (QI Q) (mm L I J) n 0 (by omega)
  rw [nI_0] at pw
  have := m_por_out (d := d + 1) (L := L) (J := J) hp hn hk (nI m) (QI Q) (2 ^ n) 0 I 0 (by omega) e2 (fun I' g => by rw [e1]; exact hQ I' (MdR_sc h g) (FrM_R g))
  rw [nI_0, lN_0] at this
  exact pw.mpr this
end MD19
