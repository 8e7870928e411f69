/-! ===== the pure memory and the machine's heap ===== -/
/-- base, the String, its bytes, the script, the heap at the law's start, the script's length and ints, classes and slots, array classes by kind -/
abbrev WP : Type := Nat × Nat × Nat × Nat × Heap × Nat × (Nat → Int32) × va_G × (Nat → ClassId)
def wB (w : WP) : Nat := w.1
def wSt (w : WP) : Nat := w.2.1
def wBy (w : WP) : Nat := w.2.2.1
def wSc (w : WP) : Nat := w.2.2.2.1
def wH (w : WP) : Heap := w.2.2.2.2.1
def wL (w : WP) : Nat := w.2.2.2.2.2.1
def wX (w : WP) : Nat → Int32 := w.2.2.2.2.2.2.1
def wD (w : WP) : va_G := w.2.2.2.2.2.2.2.1
def wA (w : WP) : Nat → ClassId := w.2.2.2.2.2.2.2.2
def rho (w : WP) (a : Nat) : Nat := if a < 1000000 then wB w + a else if a = 1000000 then wSc w else if a = 1000001 then wSt w else wBy w
def mv (w : WP) (v : Value) : Value := match v with
  | .ref a => .ref (rho w a)
  | .int x => .int x
  | .long x => .long x
  | .float x => .float x
  | .double x => .double x
  | .null => .null
  | .retAddr x => .retAddr x
def mvl (w : WP) (lv : LV) : LV := lv.map (fun q => (q.1, mv w q.2))
theorem mv_cat (w : WP) (v : Value) : (mv w v).category = v.category := by cases v <;> rfl
def rfO (w : WP) (r : Nat) : Option Nat := if r = 999999 then none else some (rho w r)
def fV (w : WP) (M : Mem) (i ci k : Nat) : Value := match fT ci k with
  | 0 => .int (mI M i k)
  | 1 => .long (mJ M i k)
  | _ => va_rf (rfO w (mR M i k))
def flds (w : WP) (M : Mem) (i ci : Nat) : List Value := (List.range (nf ci)).map (fV w M i ci)
def cellE (w : WP) (M : Mem) (i : Nat) : va_E :=
  if mC M i < 8 then .inr (mC M i, flds w M i (mC M i))
  else if mC M i = 10 ∨ mC M i = 11 ∨ mC M i = 12 then .inl (wA w (mC M i), mL M i, .inl (mI M i))
  else .inl (wA w (mC M i), mL M i, .inr (.inr (.inr (.inr (fun k => rfO w (mR M i k))))))
def byU : List Int32 := [117, 100, 108, 114, 105, 111]
def old (t : Nat) : Prop := t = 99 ∨ t = 13 ∨ t = 17 ∨ t = 20
def wf (w : WP) (M : Mem) : Prop := mN M ≤ 900000 ∧ (∀ a, ¬ old (mC M a) → a < mN M) ∧ (∀ a, a < mN M → ¬ old (mC M a)) ∧
  (∀ a, mC M a = 17 → a = 1000000 ∧ mL M a = wL w ∧ mI M a = wX w) ∧ (∀ a, mC M a = 13 → a = 1000002 ∧ mL M a = 6 ∧ ∀ k, mI M a k = byU.getD k 0) ∧ (∀ a, mC M a = 20 → a = 1000001 ∧ mR M a 0 = 1000002 ∧ mI M a 1 = 0)
def HR (w : WP) (M : Mem) (H : Heap) : Prop := H.size = wB w + mN M ∧ (∀ q : Nat, q < wB w → H[q]? = (wH w)[q]?) ∧ (∀ i, i < mN M → va_at (wD w) vwCl (wB w + i, cellE w M i) H) ∧ wf w M
def tysW (w : WP) : List (ClassId × FieldType) := [(wA w 10, .int), (wA w 11, .char), (wA w 12, .boolean), (wA w 14, .object "KnotNames$Row"), (wA w 15, .object "KnotNames$Camp"), (wA w 16, .array .int)]
def nGood (x : Cond) : Bool := match x with
  | .fieldLinkNest .. => true
  | .methodLinkNest .. => true
  | x => goodWord x
def va_AOA (ty : FieldType) (U : State) : Prop := (Cond.arrayOver (.array ty)).before #[] U = true
theorem va_AOA.use {ty : FieldType} {A : Array Value} {U : State} (h : va_AOA ty U) : (Cond.arrayOver (.array ty)).before A U = true := h
theorem va_AOA.moved {ty : FieldType} {u U : State} (hvm : u.vm.Alike U.vm) (h : va_AOA ty u) : va_AOA ty U := by
  obtain ⟨comp, c, k, h1, h2, h3, h4, h5⟩ := arrayOverA_spec h
  obtain ⟨k', hk', he⟩ := hvm.2.2 _ _ h3
  have hi : (U.vm.classes.findIdx? fun (x : Class) => match x.kind with | .array component _ => component == comp | _ => false) = some c := by
    rw [hvm.findIdx?_eq _ (fun _ => rfl)]
    exact h2
  have hkind : k'.kind = .array comp (.array ty) := by rw [he]; exact h4
  have f1 : U.vm.findClass (FieldType.array ty).toString = some comp := by rw [hvm.findClass]; exact h1
  have f2 : U.vm.findClass ("[" ++ (FieldType.array ty).toString) = some c := by rw [hvm.findClass]; exact h5
  unfold va_AOA Cond.before Cond.holds
  simp only [Cond.value]
  rw [f1, Option.bind_some]
  refine (congrArg (fun o : Option Nat => (o.bind (fun c => (U.vm.classes[c]?).map fun (k : Class) => match k.kind with | .array _ t2 => decide (t2 = FieldType.array ty) && decide (U.vm.findClass ("[" ++ (FieldType.array ty).toString) = some c) | _ => false) == some true)) hi).trans ?_
  simp [hk', hkind, f2]
def Aw (w : WP) : Nat → Prop := fun q => wB w ≤ q
/-- what a state's tables and the cells from before the law say -/
def St (w : WP) (U : State) : Prop := (∀ x ∈ lw_tbl, nGood x = true → ∀ a : Array Value, x.before a U = true) ∧ va_K (wD w) vwCl (tysW w) U ∧ va_X (wSc w) (wL w) (wX w) U (wH w) ∧ vk_R "KnotNames$Text" 19 "udlrio" (wSt w) U ∧
  vk_S 1 [6] [byU] (fun _ => wSt w) (fun _ => wBy w) (Aw w) U (wH w) ∧ va_Z "java/lang/String" "COMPACT_STRINGS" "Z" (.int 1) (Aw w) U (wH w) ∧ va_AO "KnotNames$Row" U ∧ va_AO "KnotNames$Camp" U ∧ va_AOA .int U
theorem rho_lo {w : WP} {a : Nat} (h : a < 1000000) : rho w a = wB w + a := by unfold rho; rw [if_pos h]
theorem wf_new {w : WP} {M : Mem} {a t : Nat} (h : wf w M) (ht : mC M a = t) (hn : ¬ old t) : a < mN M ∧ rho w a = wB w + a := by
  obtain ⟨h1, h2, -⟩ := h
  have h3 : a < mN M := h2 a (by rw [ht]; exact hn)
  exact ⟨h3, rho_lo (by omega)⟩
theorem va_p1 {D : va_G} {cl : List vw_C} {q : Nat × va_E} {H : Heap} (h : va_at D cl q H) : va_P D cl [q] H := by
  intro k x hx
  have h0 : k < 1 := (List.getElem?_eq_some_iff.mp hx).1
  rw [show k = 0 by omega] at hx
  cases hx
  exact h
theorem HR_obj {w : WP} {M : Mem} {H : Heap} {a ci : Nat} (h : HR w M H) (ht : mC M a = ci) (hc : ci < 8) : a < mN M ∧ rho w a = wB w + a ∧ va_at (wD w) vwCl (wB w + a, .inr (ci, flds w M a ci)) H := by
  obtain ⟨-, -, h3, h4⟩ := h
  obtain ⟨g1, g2⟩ := wf_new h4 ht (by unfold old; omega)
  have := h3 a g1
  unfold cellE at this
  rw [if_pos (by omega), ht] at this
  exact ⟨g1, g2, this⟩
theorem HR_ints {w : WP} {M : Mem} {H : Heap} {a t : Nat} (h : HR w M H) (ht : mC M a = t) (hc : t = 10 ∨ t = 11 ∨ t = 12) : a < mN M ∧ rho w a = wB w + a ∧ H[wB w + a]? = some (vp_cell (wA w t) (mL M a, .inl (mI M a))) := by
  obtain ⟨-, -, h3, h4⟩ := h
  obtain ⟨g1, g2⟩ := wf_new h4 ht (by unfold old; omega)
  have := h3 a g1
  unfold cellE at this
  rw [if_neg (by omega), if_pos (by rw [ht]; exact hc), ht] at this
  exact ⟨g1, g2, this⟩
theorem HR_refs {w : WP} {M : Mem} {H : Heap} {a t : Nat} (h : HR w M H) (ht : mC M a = t) (hc : t = 14 ∨ t = 15 ∨ t = 16) : a < mN M ∧ rho w a = wB w + a ∧ H[wB w + a]? = some (vp_cell (wA w t) (mL M a, .inr (.inr (.inr (.inr (fun k => rfO w (mR M a k))))))) := by
  obtain ⟨-, -, h3, h4⟩ := h
  obtain ⟨g1, g2⟩ := wf_new h4 ht (by unfold old; omega)
  have := h3 a g1
  unfold cellE at this
  rw [if_neg (by omega), if_neg (by omega), ht] at this
  exact ⟨g1, g2, this⟩
/-- a written memory: one cell changed -/
theorem HR_put {w : WP} {M M' : Mem} {H H' : Heap} {a : Nat} (h : HR w M H) (ha : a < mN M) (hN : mN M' = mN M) (hC : mC M' = mC M) (hL : mL M' = mL M) (hI : ∀ b, b ≠ a → mI M' b = mI M b) (hJ : ∀ b, b ≠ a → mJ M' b = mJ M b) (hR : ∀ b, b ≠ a → mR M' b = mR M b)
    (he : va_at (wD w) vwCl (wB w + a, cellE w M' a) H') (hz : H'.size = H.size) (ho : ∀ q, q ≠ wB w + a → H'[q]? = H[q]?) : HR w M' H' := by
  obtain ⟨h1, h2, h3, h4, h5, h6, h7, h8, h9⟩ := h
  have hal : ¬ old (mC M a) := h6 a ha
  refine ⟨by rw [hz, hN]; exact h1, fun q hq => by rw [ho q (by omega)]; exact h2 q hq, fun i hi => ?_, by rw [hN]; exact h4, by rw [hN, hC]; exact h5, by rw [hN, hC]; exact h6, ?_, ?_, ?_⟩
  · rw [hN] at hi
    by_cases e : i = a
    · rw [e]; exact he
    · have hc : cellE w M' i = cellE w M i := by
        unfold cellE flds
        have hfv : fV w M' i (mC M i) = fV w M i (mC M i) := by
          funext k
          unfold fV
          rw [hI i e, hJ i e, hR i e]
        rw [hC, hL, hI i e, hR i e, hfv]
      rw [hc]
      exact (h3 i hi).kept (ho _ (show wB w + i ≠ wB w + a by omega))
  · intro b hb
    rw [hC] at hb
    have hba : b ≠ a := fun e => hal (by rw [← e, hb]; unfold old; omega)
    rw [hL, hI b hba]
    exact h7 b hb
  · intro b hb
    rw [hC] at hb
    have hba : b ≠ a := fun e => hal (by rw [← e, hb]; unfold old; omega)
    rw [hL, hI b hba]
    exact h8 b hb
  · intro b hb
    rw [hC] at hb
    have hba : b ≠ a := fun e => hal (by rw [← e, hb]; unfold old; omega)
    rw [hR b hba, hI b hba]
    exact h9 b hb
theorem up2_ne {α : Type} (f : Nat → Nat → α) {a b : Nat} (k : Nat) (v : α) (h : b ≠ a) : up2 f a k v b = f b := by
  funext j
  unfold up2
  rw [if_neg (fun q => h q.1)]
theorem up2_row {α : Type} (f : Nat → Nat → α) (a k : Nat) (v : α) : up2 f a k v a = fun j => if j = k then v else f a j := by
  funext j
  unfold up2
  by_cases h : j = k
  · rw [if_pos ⟨rfl, h⟩, if_pos h]
  · rw [if_neg (fun q => h q.2), if_neg h]
theorem HR_setI {w : WP} {M : Mem} {H H' : Heap} {a k : Nat} {v : Int32} (h : HR w M H) (ha : a < mN M) (he : va_at (wD w) vwCl (wB w + a, cellE w (setI M a k v) a) H') (hz : H'.size = H.size) (ho : ∀ q, q ≠ wB w + a → H'[q]? = H[q]?) : HR w (setI M a k v) H' :=
  HR_put h ha rfl rfl rfl (fun _ hb => up2_ne _ _ _ hb) (fun _ _ => rfl) (fun _ _ => rfl) he hz ho
theorem HR_setJ {w : WP} {M : Mem} {H H' : Heap} {a k : Nat} {v : Int64} (h : HR w M H) (ha : a < mN M) (he : va_at (wD w) vwCl (wB w + a, cellE w (setJ M a k v) a) H') (hz : H'.size = H.size) (ho : ∀ q, q ≠ wB w + a → H'[q]? = H[q]?) : HR w (setJ M a k v) H' :=
  HR_put h ha rfl rfl rfl (fun _ _ => rfl) (fun _ hb => up2_ne _ _ _ hb) (fun _ _ => rfl) he hz ho
theorem HR_setR {w : WP} {M : Mem} {H H' : Heap} {a k : Nat} {v : Nat} (h : HR w M H) (ha : a < mN M) (he : va_at (wD w) vwCl (wB w + a, cellE w (setR M a k v) a) H') (hz : H'.size = H.size) (ho : ∀ q, q ≠ wB w + a → H'[q]? = H[q]?) : HR w (setR M a k v) H' :=
  HR_put h ha rfl rfl rfl (fun _ _ => rfl) (fun _ _ => rfl) (fun _ hb => up2_ne _ _ _ hb) he hz ho
/-- a made cell -/
theorem HR_fresh {w : WP} {M : Mem} {H H' : Heap} {t len sl : Nat} (h : HR w M H) (hlim : mN M < 800000) (hto : ¬ old t) (he : va_at (wD w) vwCl (wB w + mN M, cellE w (fresh M t len sl) (mN M)) H') (hz : H'.size = H.size + 1) (ho : ∀ q, q < H.size → H'[q]? = H[q]?) : HR w (fresh M t len sl) H' := by
  obtain ⟨h1, h2, h3, h4, h5, h6, h7, h8, h9⟩ := h
  have hC : ∀ b, b ≠ mN M → mC (fresh M t len sl) b = mC M b := fun b hb => by show va_up _ _ _ _ = _; unfold va_up; rw [if_neg hb]
  have hC1 : mC (fresh M t len sl) (mN M) = t := by show va_up _ _ _ _ = _; unfold va_up; rw [if_pos rfl]
  have hL : ∀ b, b ≠ mN M → mL (fresh M t len sl) b = mL M b := fun b hb => by show va_up _ _ _ _ = _; unfold va_up; rw [if_neg hb]
  have hI : ∀ b, b ≠ mN M → mI (fresh M t len sl) b = mI M b := fun b hb => by funext j; show (if _ then _ else _) = _; rw [if_neg hb]
  have hJ : ∀ b, b ≠ mN M → mJ (fresh M t len sl) b = mJ M b := fun b hb => by funext j; show (if _ then _ else _) = _; rw [if_neg hb]
  have hR : ∀ b, b ≠ mN M → mR (fresh M t len sl) b = mR M b := fun b hb => by funext j; show (if _ then _ else _) = _; rw [if_neg hb]
  have hN : mN (fresh M t len sl) = mN M + 1 := rfl
  have hne : ∀ b, old (mC M b) → b ≠ mN M ∨ ∃ q, q = mN M := fun b _ => Or.inr ⟨_, rfl⟩
  have key : ∀ b u, old u → mC (fresh M t len sl) b = u → b ≠ mN M := fun b u hu hb e => hto (by rw [e, hC1] at hb; rw [hb]; exact hu)
  refine ⟨by rw [hz, h1, hN]; omega, fun q hq => by rw [ho q (by omega)]; exact h2 q hq, fun i hi => ?_, by rw [hN]; omega, ?_, ?_, ?_, ?_, ?_⟩
  · rw [hN] at hi
    by_cases e : i = mN M
    · rw [e]; exact he
    · have hc : cellE w (fresh M t len sl) i = cellE w M i := by
        unfold cellE flds
        have hfv : fV w (fresh M t len sl) i (mC M i) = fV w M i (mC M i) := by
          funext k
          unfold fV
          rw [hI i e, hJ i e, hR i e]
        rw [hC i e, hL i e, hI i e, hR i e, hfv]
      rw [hc]
      exact (h3 i (by omega)).kept (ho _ (show wB w + i < H.size by omega))
  · intro b hb
    rw [hN]
    by_cases e : b = mN M
    · omega
    · rw [hC b e] at hb
      have := h5 b hb
      omega
  · intro b hb
    rw [hN] at hb
    by_cases e : b = mN M
    · rw [e, hC1]; exact hto
    · rw [hC b e]
      exact h6 b (by omega)
  · intro b hb
    have e := key b 17 (by unfold old; omega) hb
    rw [hC b e] at hb
    rw [hL b e, hI b e]
    exact h7 b hb
  · intro b hb
    have e := key b 13 (by unfold old; omega) hb
    rw [hC b e] at hb
    rw [hL b e, hI b e]
    exact h8 b hb
  · intro b hb
    have e := key b 20 (by unfold old; omega) hb
    rw [hC b e] at hb
    rw [hR b e, hI b e]
    exact h9 b hb
