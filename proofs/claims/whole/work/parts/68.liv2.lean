/-! ===== lives: the first row, how many times each; the class notes a row ===== -/
def fmo : List (List Nat) → Option (List Nat)
  | [] => none
  | s :: W => match fmo W with
    | none => some s
    | some x => if x.length < s.length then some x else some s
def fms (o : Option (List Nat)) (s : List Nat) : Option (List Nat) := match o with
  | none => some s
  | some x => if s.length < x.length then some s else some x
theorem fmo_snoc (s : List Nat) : ∀ W, fmo (W ++ [s]) = fms (fmo W) s := by
  intro W
  induction W with
  | nil => rfl
  | cons t W ih =>
    show (match fmo (W ++ [s]) with | none => some t | some x => if x.length < t.length then some x else some t) = fms (match fmo W with | none => some t | some x => if x.length < t.length then some x else some t) s
    rw [ih]
    cases fmo W with
    | none => show (if s.length < t.length then some s else some t) = (if s.length < t.length then some s else some t); rfl
    | some x =>
      show (match (if s.length < x.length then some s else some x) with | none => some t | some x => if x.length < t.length then some x else some t) = fms (if x.length < t.length then some x else some t) s
      by_cases c1 : s.length < x.length
      · rw [if_pos c1]
        by_cases c2 : x.length < t.length
        · rw [if_pos c2]
          show (if s.length < t.length then some s else some t) = (if s.length < x.length then some s else some x)
          rw [if_pos (by omega), if_pos c1]
        · rw [if_neg c2]
          rfl
      · rw [if_neg c1]
        by_cases c2 : x.length < t.length
        · rw [if_pos c2]
          show (if x.length < t.length then some x else some t) = (if s.length < x.length then some s else some x)
          rw [if_pos c2, if_neg c1]
        · rw [if_neg c2]
          show (if x.length < t.length then some x else some t) = (if s.length < t.length then some s else some t)
          rw [if_neg c2, if_neg (by omega)]
theorem fmo_none : ∀ W, fmo W = none ↔ W = [] := by
  intro W
  cases W with
  | nil => exact ⟨fun _ => rfl, fun _ => rfl⟩
  | cons s W =>
    refine ⟨fun h => ?_, fun h => by cases h⟩
    exfalso
    have h : (match fmo W with | none => some s | some x => if x.length < s.length then some x else some s) = none := h
    cases e : fmo W with
    | none => rw [e] at h; cases h
    | some x =>
      rw [e] at h
      have h : (if x.length < s.length then some x else some s) = none := h
      split at h <;> cases h
theorem fmo_is : ∀ W x, fmo W = some x → x ∈ W ∧ (∀ y ∈ W, x.length ≤ y.length) ∧ (W.filter (fun s => decide (s.length = x.length))).head? = some x := by
  intro W
  induction W with
  | nil => intro x h; cases h
  | cons s W ih =>
    intro x h
    have h : (match fmo W with | none => some s | some x => if x.length < s.length then some x else some s) = some x := h
    cases e : fmo W with
    | none =>
      rw [e] at h
      have h := Option.some.inj h
      have e0 := (fmo_none W).mp e
      rw [← h, e0]
      refine ⟨by simp, fun y hy => ?_, ?_⟩
      · rw [List.mem_singleton.mp hy]; exact Nat.le_refl _
      · rw [List.filter_cons_of_pos (by simp)]; rfl
    | some z =>
      rw [e] at h
      have h : (if z.length < s.length then some z else some s) = some x := h
      obtain ⟨i1, i2, i3⟩ := ih z e
      by_cases c : z.length < s.length
      · rw [if_pos c] at h
        have h := Option.some.inj h
        rw [← h]
        refine ⟨List.mem_cons_of_mem _ i1, fun y hy => ?_, ?_⟩
        · rcases List.mem_cons.mp hy with q | q
          · rw [q]; omega
          · exact i2 y q
        · rw [List.filter_cons_of_neg (by simp; omega)]
          exact i3
      · rw [if_neg c] at h
        have h := Option.some.inj h
        rw [← h]
        refine ⟨List.mem_cons_self, fun y hy => ?_, ?_⟩
        · rcases List.mem_cons.mp hy with q | q
          · rw [q]; exact Nat.le_refl _
          · have := i2 y q; omega
        · rw [List.filter_cons_of_pos (by simp)]; rfl
def fl_ (W : List (List Nat)) (a j : Nat) : List (List Nat) := (List.range' a j).flatMap (fun m => W.filter (fun s => decide (s.length = m)))
theorem fl_s (W : List (List Nat)) (a j : Nat) : fl_ W a (j + 1) = W.filter (fun s => decide (s.length = a)) ++ fl_ W (a + 1) j := by
  unfold fl_
  rw [List.range'_succ, List.flatMap_cons]
theorem fl_hd {W : List (List Nat)} {x : List Nat} (h : fmo W = some x) : ∀ j a, a ≤ x.length → x.length < a + j → (fl_ W a j).head? = some x := by
  obtain ⟨i1, i2, i3⟩ := fmo_is W x h
  intro j
  induction j with
  | zero => intro a h1 h2; omega
  | succ j ih =>
    intro a h1 h2
    rw [fl_s, List.head?_append]
    by_cases c : a = x.length
    · rw [c, i3]; rfl
    · have : W.filter (fun s => decide (s.length = a)) = [] := by
        rw [List.filter_eq_nil_iff]
        intro s hs
        have := i2 s hs
        simp only [decide_eq_true_eq]
        omega
      rw [this, ih (a + 1) (by omega) (by omega)]
      rfl
def sm (f : List Nat → Nat) (W : List (List Nat)) : Nat := (W.map f).sum
theorem sm_app (f : List Nat → Nat) (A B : List (List Nat)) : sm f (A ++ B) = sm f A + sm f B := by
  unfold sm
  rw [List.map_append, List.sum_append]
theorem sm_cons (f : List Nat → Nat) (s : List Nat) (B : List (List Nat)) : sm f (s :: B) = f s + sm f B := by
  unfold sm
  rw [List.map_cons, List.sum_cons]
theorem fl_cons (f : List Nat → Nat) (s : List Nat) (W : List (List Nat)) : ∀ j a, sm f (fl_ (s :: W) a j) = (if a ≤ s.length ∧ s.length < a + j then f s else 0) + sm f (fl_ W a j) := by
  intro j
  induction j with
  | zero => intro a; rw [if_neg (by omega)]; rfl
  | succ j ih =>
    intro a
    rw [fl_s, fl_s, sm_app, sm_app, ih (a + 1)]
    by_cases c : s.length = a
    · rw [List.filter_cons_of_pos (by simp [c]), sm_cons, if_neg (by omega), if_pos (by omega)]
      omega
    · rw [List.filter_cons_of_neg (by simp [c])]
      by_cases c2 : a + 1 ≤ s.length ∧ s.length < a + 1 + j
      · rw [if_pos c2, if_pos (by omega)]; omega
      · rw [if_neg c2, if_neg (by omega)]; omega
theorem fl_sum (f : List Nat → Nat) (a j : Nat) : ∀ W : List (List Nat), (∀ s ∈ W, a ≤ s.length ∧ s.length < a + j) → sm f (fl_ W a j) = sm f W := by
  intro W
  induction W with
  | nil =>
    intro _
    show sm f ((List.range' a j).flatMap (fun _ => [])) = sm f []
    rw [flat_nil]
  | cons s W ih =>
    intro h
    rw [fl_cons, if_pos (h s List.mem_cons_self), sm_cons, ih (fun t ht => h t (List.mem_cons_of_mem _ ht))]
theorem sm_1 (W : List (List Nat)) : sm (fun _ => 1) W = W.length := by
  induction W with
  | nil => rfl
  | cons s W ih => rw [sm_cons, ih, List.length_cons, Nat.add_comm]
/-- all that the model finds, row by length -/
def uAll (n : Nat) (ok : List Nat → Bool) (k : Nat) : List (List Nat) := (List.range' 1 k).flatMap (uLen n ok)
theorem uAll_fl {n : Nat} (hn : n ≤ 6) (ok : List Nat → Bool) {k : Nat} (hk : k ≤ 6) : uAll n ok k = fl_ (wAll n ok) 1 k := by
  unfold uAll fl_
  apply flat_cg
  intro m hm
  obtain ⟨i, i1, i2⟩ := List.mem_range'.mp hm
  exact uLen_w hn ok (by omega) (by omega)
theorem uAll_sm {n : Nat} (hn : n ≤ 6) (ok : List Nat → Bool) (f : List Nat → Nat) : sm f (uAll n ok n) = sm f (wAll n ok) := by
  rw [uAll_fl hn ok hn]
  refine fl_sum f 1 n _ (fun s hs => ?_)
  obtain ⟨a, b, -⟩ := w_len hn hs
  omega
theorem uAll_len {n : Nat} (hn : n ≤ 6) (ok : List Nat → Bool) : (uAll n ok n).length = (wAll n ok).length := by
  rw [← sm_1, ← sm_1, uAll_sm hn]
theorem uAll_hd {n : Nat} (hn : n ≤ 6) (ok : List Nat → Bool) : (uAll n ok n).head? = fmo (wAll n ok) := by
  cases e : fmo (wAll n ok) with
  | none =>
    have e0 := (fmo_none _).mp e
    have := uAll_len hn ok
    rw [e0, List.length_nil] at this
    rw [List.eq_nil_of_length_eq_zero this]
    rfl
  | some x =>
    obtain ⟨a, b, -⟩ := w_len hn (fmo_is _ x e).1
    rw [uAll_fl hn ok hn, fl_hd e n 1 a (by omega)]
theorem CL184 : CL 184 = 4 := by decide
theorem CL186 : CL 186 = 4 := by decide
theorem CL188 : CL 188 = 10 := by decide
theorem CL189 : CL 189 = 10 := by decide
theorem CL190 : CL 190 = 10 := by decide
theorem RR183_0 : RR 183 0 = 184 := by decide
theorem RR183_1 : RR 183 1 = 186 := by decide
theorem RR183_2 : RR 183 2 = 188 := by decide
theorem RR183_3 : RR 183 3 = 189 := by decide
theorem RR183_4 : RR 183 4 = 190 := by decide
theorem n184 : ¬ (184 : Nat) = 999999 := by decide
theorem n186 : ¬ (186 : Nat) = 999999 := by decide
theorem n188 : ¬ (188 : Nat) = 999999 := by decide
theorem n189 : ¬ (189 : Nat) = 999999 := by decide
theorem n190 : ¬ (190 : Nat) = 999999 := by decide
theorem LN188 (L : Nat) : LN L 188 = 6 := rfl
theorem LN189 (L : Nat) : LN L 189 = 6 := rfl
theorem LN190 (L : Nat) : LN L 190 = 6 := rfl
theorem w184 : Rw 184 12 := by unfold Rw; decide
theorem w186 : Rw 186 72 := by unfold Rw; decide
/-- the class has noted the rows W -/
def Lv (I : Nat → Nat → Int32) (W : List (List Nat)) : Prop := I 183 6 = nI W.length ∧ (∀ x, fmo W = some x → I 183 5 = nI x.length ∧ ∀ i, i < x.length → I 189 i = nI (x.getD i 0)) ∧ ∀ h, h < 6 → I 190 h = nI (sm (fun s => s.count h) W)
theorem Lv_fr {I I' : Nat → Nat → Int32} {W : List (List Nat)} (h : Lv I W) (h1 : I' 183 = I 183) (h2 : I' 189 = I 189) (h3 : I' 190 = I 190) : Lv I' W := by
  unfold Lv
  rw [h1, h2, h3]
  exact h
section Nt
variable {d L : Nat} {J : Nat → Nat → Int64}
theorem c_note_loop {s : List Nat} {b : Nat → Nat} {w : Nat} (h6 : ∀ i, i < s.length → s.getD i 0 < 6) (hs : s.length ≤ 6) (f : Bool) (Q : Option Value → Mem → Prop) : ∀ (m k : Nat) (I : Nat → Nat → Int32), k + m = s.length → (∀ h, h < 6 → I 190 h = nI (b h + (s.take k).count h)) → (f = true → ∀ i, i < k → I 189 i = nI (s.getD i 0)) → (∀ i, i < s.length → I 188 i = nI (s.getD i 0)) → I 183 6 = nI w → (∀ I', (∀ h, h < 6 → I' 190 h = nI (b h + s.count h)) → (f = true → ∀ i, i < s.length → I' 189 i = nI (s.getD i 0)) → (f = false → I' 189 = I 189) → I' 183 6 = nI (w + 1) → I' 183 5 = I 183 5 → (∀ a, a ≠ 183 → a ≠ 189 → a ≠ 190 → I' a = I a) → Q none (mm L I' J)) →
    Wn d i_Lives_note 32 [(0, .ref 183), (1, .int (nI s.length)), (2, .int (bI f)), (3, .int (nI k))] [] (mm L I J) Q := by
  intro m
  induction m with
  | zero =>
    intro k I hk h190 h189 h188 h183 hQ
    rw [H_Lives_note_32, if_neg (nI_nlt (by omega) (by omega))]
    simp only [mm_C, mm_R, mm_L, mm_I, mm_sI, CL183, CL184, CL186, CL188, CL189, CL190, CL3, RR183_0, RR183_1, RR183_2, RR183_3, RR183_4, n184, n186, n188, n189, n190, LN188, LN189, LN190, ↓reduceIte, h183, nI_1]
    rw [show k = s.length by omega, List.take_length] at h190
    rw [show k = s.length by omega] at h189
    refine hQ _ (fun h hh => ?_) (fun q i hi => ?_) (fun _ => up2_ne _ _ _ (by omega)) (up2_same _ _ _ _) (up2_other _ _ _ (by omega)) (fun a a1 a2 a3 => up2_ne _ _ _ a1)
    · rw [up2_ne _ _ _ (by omega)]
      exact h190 h hh
    · rw [up2_ne _ _ _ (by omega)]
      exact h189 q i hi
  | succ m ih =>
    intro k I hk h190 h189 h188 h183 hQ
    have x6 := h6 k (by omega)
    have x1 : I 188 k = nI (s.getD k 0) := h188 k (by omega)
    have kk : Int32.toNatClampNeg (nI k) = k := ix_nI (by omega)
    have kx : Int32.toNatClampNeg (nI (s.getD k 0)) = s.getD k 0 := ix_nI (by omega)
    have i1 : rdI 10 ∧ inb (nI k) 6 := ⟨by decide, inb_nI (by omega) (by omega)⟩
    have i2 : rdI 10 ∧ inb (nI (s.getD k 0)) 6 := ⟨by decide, inb_nI (by omega) (by omega)⟩
    have u188 : ∀ v : Int32, up2 I 190 (s.getD k 0) v 188 k = nI (s.getD k 0) := fun v => by rw [up2_ne _ _ _ (by omega)]; exact x1
    have tk : s.take (k + 1) = s.take k ++ [s.getD k 0] := (take_app (by omega)).symm
    have cn : ∀ h, h < 6 → up2 I 190 (s.getD k 0) (nI (b (s.getD k 0) + (s.take k).count (s.getD k 0) + 1)) 190 h = nI (b h + (s.take (k + 1)).count h) := fun h hh => by
      rw [tk, List.count_append]
      by_cases e : h = s.getD k 0
      · rw [e, up2_same, List.count_singleton_self]
        rfl
      · have z : List.count h [s.getD k 0] = 0 := List.count_eq_zero.mpr (fun q => e (List.mem_singleton.mp q))
        rw [up2_other _ _ _ e, z, h190 h hh]
        rfl
    rw [H_Lives_note_32, if_pos (nI_lt (by omega) (by omega)), nI_1 k]
    simp only [mm_C, mm_R, mm_L, mm_I, mm_sI, CL183, CL184, CL186, CL188, CL189, CL190, CL3, RR183_0, RR183_1, RR183_2, RR183_3, RR183_4, n184, n186, n188, n189, n190, LN188, LN189, LN190, ↓reduceIte, kk, x1, kx, u188, h190 (s.getD k 0) x6, nI_1, true_and]
    rw [if_pos i1, if_pos i2, if_pos i2.2]
    cases f with
    | false =>
      rw [if_pos (by rfl)]
      refine ih (k + 1) _ (by omega) cn (fun q => by cases q) (fun i hi => by rw [up2_ne _ _ _ (by omega)]; exact h188 i hi) (by rw [up2_ne _ _ _ (by omega)]; exact h183) (fun I' g1 g2 g3 g4 g5 g6 => hQ I' g1 g2 (fun _ => by rw [g3 rfl, up2_ne _ _ _ (by omega)]) g4 (by rw [g5, up2_ne _ _ _ (by omega)]) (fun a a1 a2 a3 => by rw [g6 a a1 a2 a3, up2_ne _ _ _ a3]))
    | true =>
      rw [if_neg (by decide), if_pos i1, if_pos i1.2]
      refine ih (k + 1) _ (by omega) (fun h hh => by rw [up2_ne _ _ _ (by omega)]; exact cn h hh) (fun _ i hi => ?_) (fun i hi => by rw [up2_ne _ _ _ (by omega), up2_ne _ _ _ (by omega)]; exact h188 i hi) (by rw [up2_ne _ _ _ (by omega), up2_ne _ _ _ (by omega)]; exact h183) (fun I' g1 g2 g3 g4 g5 g6 => hQ I' g1 g2 (fun q => by cases q) g4 (by rw [g5, up2_ne _ _ _ (by omega), up2_ne _ _ _ (by omega)]) (fun a a1 a2 a3 => by rw [g6 a a1 a2 a3, up2_ne _ _ _ a2, up2_ne _ _ _ a3]))
      by_cases e : i = k
      · rw [e, up2_same]
      · rw [up2_other _ _ _ e, up2_ne _ _ _ (by omega)]
        exact h189 rfl i (by omega)
theorem c_note {I : Nat → Nat → Int32} {W : List (List Nat)} {s : List Nat} (h6 : ∀ i, i < s.length → s.getD i 0 < 6) (hs : s.length ≤ 6) (hW : W.length < 100000) (hx6 : ∀ x, fmo W = some x → x.length ≤ 6) (hc : ∀ i, i < s.length → I 188 i = nI (s.getD i 0)) (hL : Lv I W) (Q : Mem → Prop) (hQ : ∀ I', Lv I' (W ++ [s]) → (∀ a, a ≠ 183 → a ≠ 189 → a ≠ 190 → I' a = I a) → Q (mm L I' J)) : WV d i_Lives_note [.ref 183, .int (nI s.length)] (mm L I J) Q := by
  obtain ⟨l1, l2, l3⟩ := hL
  have i0 : ∀ x : Nat, List.count x (s.take 0) = 0 := fun x => by rw [List.take_zero]; rfl
  have fin : ∀ I', I' 183 6 = nI (W.length + 1) → (∀ x, fms (fmo W) s = some x → I' 183 5 = nI x.length ∧ ∀ i, i < x.length → I' 189 i = nI (x.getD i 0)) → (∀ h, h < 6 → I' 190 h = nI (sm (fun s => s.count h) W + s.count h)) → Lv I' (W ++ [s]) := fun I' a b c => by
    refine ⟨by rw [List.length_append]; exact a, fun x hx => b x (by rw [← fmo_snoc]; exact hx), fun h hh => ?_⟩
    rw [sm_app]
    exact c h hh
  have yes : ∀ I1, (I1 = up2 I 183 5 (nI s.length)) → (fms (fmo W) s = some s) → Wn d i_Lives_note 32 [(0, .ref 183), (1, .int (nI s.length)), (2, .int 1), (3, .int 0)] [] (mm L I1 J) (QV Q) := fun I1 e1 e2 => by
    have := c_note_loop (d := d) (L := L) (J := J) (s := s) (b := fun h => sm (fun s => s.count h) W) (w := W.length) h6 hs true (QV Q) s.length 0 I1 (by omega) (fun h hh => by rw [e1, up2_ne _ _ _ (by omega), i0]; exact l3 h hh) (fun _ i hi => absurd hi (Nat.not_lt_zero i)) (fun i hi => by rw [e1, up2_ne _ _ _ (by omega)]; exact hc i hi) (by rw [e1, up2_other _ _ _ (by omega)]; exact l1) (fun I' g1 g2 g3 g4 g5 g6 => hQ I' (fin I' g4 (fun x hx => by
      rw [e2] at hx
      have hx := Option.some.inj hx
      rw [← hx]
      exact ⟨by rw [g5, e1, up2_same], g2 rfl⟩) g1) (fun a a1 a2 a3 => by rw [g6 a a1 a2 a3, e1, up2_ne _ _ _ a1]))
    rw [nI_0] at this
    exact this
  rw [E_Lives_note]
  simp only [mm_C, mm_R, mm_L, mm_I, mm_sI, CL183, CL184, CL186, CL188, CL189, CL190, CL3, RR183_0, RR183_1, RR183_2, RR183_3, RR183_4, n184, n186, n188, n189, n190, LN188, LN189, LN190, ↓reduceIte, i10]
  cases e : fmo W with
  | none =>
    have e0 := (fmo_none W).mp e
    have z : I 183 6 = 0 := by rw [l1, e0]; rfl
    rw [if_pos z]
    exact yes _ rfl (by rw [e]; rfl)
  | some x =>
    have nz : ¬ W = [] := fun q => by rw [(fmo_none W).mpr q] at e; cases e
    have nz2 : 0 < W.length := List.length_pos_iff.mpr nz
    have z : ¬ I 183 6 = 0 := by rw [l1]; exact nI_ne0 nz2 (by omega)
    obtain ⟨m1, m2⟩ := l2 x e
    have x6 := hx6 x e
    rw [if_neg z, m1]
    by_cases c : s.length < x.length
    · rw [if_pos (nI_lt c (by omega))]
      exact yes _ rfl (by rw [e]; show (if s.length < x.length then some s else some x) = _; rw [if_pos c])
    · rw [if_neg (nI_nlt (by omega) (by omega))]
      have e2 : fms (fmo W) s = some x := by rw [e]; show (if s.length < x.length then some s else some x) = _; rw [if_neg c]
      have := c_note_loop (d := d) (L := L) (J := J) (s := s) (b := fun h => sm (fun s => s.count h) W) (w := W.length) h6 hs false (QV Q) s.length 0 I (by omega) (fun h hh => by rw [i0]; exact l3 h hh) (fun q => by cases q) hc l1 (fun I' g1 g2 g3 g4 g5 g6 => hQ I' (fin I' g4 (fun y hy => by
        rw [e2] at hy
        have hy := Option.some.inj hy
        rw [← hy]
        exact ⟨by rw [g5]; exact m1, fun i hi => by rw [g3 rfl]; exact m2 i hi⟩) g1) g6)
      rw [nI_0] at this
      exact this
end Nt
