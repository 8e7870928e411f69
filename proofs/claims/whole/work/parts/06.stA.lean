theorem St_warm {w : WP} {s U : State} (hW : s.WarmedH U.vm) (h : St w s) : St w U := by
  obtain ⟨h1, h2, h3, h4, h5, h6, h7, h8, h9⟩ := h
  refine ⟨fun x hx hg a => ?_, h2.moved hW.alike, h3.moved hW.alike, h4.warm hW, h5.moved hW.alike, h6.moved hW.alike, h7.moved hW.alike, h8.moved hW.alike, h9.moved hW.alike⟩
  have hx1 := h1 x hx hg #[]
  cases x <;> first
    | exact va_Nw.use rfl (va_Nw.warmF hW hx1)
    | exact va_Nw.use rfl (va_Nw.warmM hW hx1)
    | exact word_at (args := #[]) hW (good_of_word hg) hx1
theorem St_same {w : WP} {s U : State} (hv : s.vm = U.vm) (h : St w s) : St w U := by
  have hW : s.WarmedH U.vm := by rw [← hv]; exact State.WarmedH.refl s
  exact St_warm hW h
def lenI (i : Instr) : Option Nat := match i with
  | .bipush _ | .iload _ | .lload _ | .aload _ | .istore _ | .lstore _ | .astore _ | .ldc _ | .newarray _ => some 2
  | .sipush _ | .iinc _ _ | .ldc_w _ | .ldc2_w _ | .goto _ | .if_icmp _ _ | .ifCond _ _ | .getfield _ | .putfield _ | .getstatic _ | .new _ | .anewarray _ | .invokevirtual _ | .invokestatic _ | .invokespecial _ => some 3
  | .multianewarray _ _ => some 4
  | .tableswitch _ _ _ _ | .lookupswitch _ _ => none
  | _ => some 1
section G
variable {w : WP} {p : Program} {l : Launch} {e : Env} {R : Room} {s : State} {m : MethodId} {args : Array Value} {below : List Frame} {meth : Method} {c : Code} {Q : State → Prop} {nL n0 s0 nT sT : Nat} {cc : ByteArray} {o : Nat} {ini : Bool}
def Gd (w : WP) (p : Program) (l : Launch) (e : Env) (R : Room) (s : State) (m : MethodId) (args : Array Value) (below : List Frame) (meth : Method) (c : Code) (nL n0 s0 : Nat) (Q : State → Prop) (pc : Nat) (lv : LV) (st : List Value) (M : Mem) : Prop :=
  ∀ (H : Heap) (locs : List Loc) (ls : Array Slot), HR w M H → n0 ≤ mN M → s0 ≤ mS M → (∀ q ∈ locs, wB w ≤ q.base) → lv_has ls nL (mvl w lv) → W p l e R s m args below meth c H locs (mN M - n0) (mS M - s0) Q (F0 m pc ls (st.map (mv w)))
/-- what stays the same while a method runs -/
def Cx (w : WP) (p : Program) (R : Room) (s : State) (m : MethodId) (args : Array Value) (meth : Method) (c : Code) (cc : ByteArray) (o nL n0 s0 nT sT : Nat) (ini : Bool) : Prop :=
  p.tables.exec = Jvm.exec ∧ c.code = cc ∧ c.maxLocals = nL ∧ s.vm.findClass (nm o) = some m.cls ∧ St w s ∧ (∀ q : Nat, q < wB w → s.heap[q]? = (wH w)[q]?) ∧ (s.heap.size = wB w + n0 ∧ (wH w).size = wB w) ∧ nT - n0 ≤ R.cells ∧ sT - s0 ≤ R.slots ∧ (ini = true → meth.name = "<init>")
theorem lvG_has {ls : Array Slot} {lv : LV} {i : Nat} {v : Value} (h : lv_has ls nL (mvl w lv)) (hv : lvG lv i = some v) : ls[i]? = some (.val (mv w v)) := by
  have key : ∀ lv : LV, lvG lv i = some v → (i, v) ∈ lv := by
    intro lv
    induction lv with
    | nil => intro h; cases h
    | cons q r ih =>
      intro h
      unfold lvG at h
      by_cases hq : q.1 = i
      · rw [if_pos hq] at h
        cases h
        rw [← hq]
        exact List.mem_cons_self
      · rw [if_neg hq] at h
        exact List.mem_cons_of_mem _ (ih h)
  exact h.2.2 (i, mv w v) (List.mem_map.mpr ⟨(i, v), key lv hv, rfl⟩)
theorem lvI_mem {q : Nat × Value} {i : Nat} {v : Value} : ∀ lv : LV, q ∈ lvI lv i v → q = (i, v) ∨ q ∈ lv := by
  intro lv
  induction lv with
  | nil => intro h; exact Or.inl (List.mem_singleton.mp h)
  | cons x r ih =>
    intro h
    unfold lvI at h
    by_cases hx : i < x.1
    · rw [if_pos hx] at h
      rcases List.mem_cons.mp h with h | h
      · exact Or.inl h
      · exact Or.inr h
    · rw [if_neg hx] at h
      rcases List.mem_cons.mp h with h | h
      · exact Or.inr (by rw [h]; exact List.mem_cons_self)
      · rcases ih h with h | h
        · exact Or.inl h
        · exact Or.inr (List.mem_cons_of_mem _ h)
theorem lv_less {ls : Array Slot} {a b : LV} (h : lv_has ls nL a) (hs : ∀ q ∈ b, q ∈ a) : lv_has ls nL b := ⟨h.1, h.2.1, fun q hq => h.2.2 q (hs q hq)⟩
theorem lvS1 {ls : Array Slot} {lv : LV} {i : Nat} {v : Value} (hv : v.category = 1) (h : lv_has ls nL ((i, mv w v) :: (mvl w lv).filter (fun q => !(q.1 == i) && !(q.1 + 1 == i && q.2.category == 2)))) : lv_has ls nL (mvl w (lvS lv i v)) := by
  refine lv_less h fun q hq => ?_
  obtain ⟨x, hx, rfl⟩ := List.mem_map.mp hq
  rcases lvI_mem _ hx with rfl | hx
  · exact List.mem_cons_self
  · obtain ⟨hx1, hx2⟩ := List.mem_filter.mp hx
    refine List.mem_cons_of_mem _ (List.mem_filter.mpr ⟨List.mem_map.mpr ⟨x, hx1, rfl⟩, ?_⟩)
    simp only [mv_cat, hv] at hx2 ⊢
    simp at hx2 ⊢
    exact hx2
theorem lvS2 {ls : Array Slot} {lv : LV} {i : Nat} {v : Value} (hv : v.category = 2) (h : lv_has ls nL ((i, mv w v) :: (mvl w lv).filter (fun q => !(q.1 == i) && (!(q.1 == i + 1) && !(q.1 + 1 == i && q.2.category == 2))))) : lv_has ls nL (mvl w (lvS lv i v)) := by
  refine lv_less h fun q hq => ?_
  obtain ⟨x, hx, rfl⟩ := List.mem_map.mp hq
  rcases lvI_mem _ hx with rfl | hx
  · exact List.mem_cons_self
  · obtain ⟨hx1, hx2⟩ := List.mem_filter.mp hx
    refine List.mem_cons_of_mem _ (List.mem_filter.mpr ⟨List.mem_map.mpr ⟨x, hx1, rfl⟩, ?_⟩)
    simp only [mv_cat, hv] at hx2 ⊢
    simp at hx2 ⊢
    exact hx2
theorem lvG_idx : ∀ {lv : LV} {i : Nat} {v : Value}, lvG lv i = some v → ∃ k : Nat, (mvl w lv)[k]? = some (i, mv w v) := by
  intro lv
  induction lv with
  | nil => intro i v h; cases h
  | cons q r ih =>
    intro i v h
    unfold lvG at h
    by_cases hq : q.1 = i
    · rw [if_pos hq] at h
      cases h
      exact ⟨0, by rw [← hq]; rfl⟩
    · rw [if_neg hq] at h
      obtain ⟨k, hk⟩ := ih h
      exact ⟨k + 1, hk⟩
theorem gI_s {β : Type} {lv : LV} {i : Nat} {k : Int32 → Option β} {r : β} (h : gI none lv i k = some r) : ∃ x, lvG lv i = some (.int x) ∧ k x = some r := by
  unfold gI at h
  split at h
  · exact ⟨_, by assumption, h⟩
  · cases h
theorem gL_s {β : Type} {lv : LV} {i : Nat} {k : Int64 → Option β} {r : β} (h : gL none lv i k = some r) : ∃ x, lvG lv i = some (.long x) ∧ k x = some r := by
  unfold gL at h
  split at h
  · exact ⟨_, by assumption, h⟩
  · cases h
theorem gR_s {β : Type} {lv : LV} {i : Nat} {k : Nat → Option β} {r : β} (h : gR none lv i k = some r) : ∃ x, lvG lv i = some (.ref x) ∧ k x = some r := by
  unfold gR at h
  split at h
  · exact ⟨_, by assumption, h⟩
  · cases h
theorem pI_s {β : Type} {st : List Value} {k : Int32 → List Value → Option β} {z : β} (h : pI none st k = some z) : ∃ x r, st = .int x :: r ∧ k x r = some z := by
  unfold pI at h
  split at h
  · exact ⟨_, _, rfl, h⟩
  · cases h
theorem pII_s {β : Type} {st : List Value} {k : Int32 → Int32 → List Value → Option β} {z : β} (h : pII none st k = some z) : ∃ x y r, st = .int y :: .int x :: r ∧ k x y r = some z := by
  unfold pII at h
  split at h
  · exact ⟨_, _, _, rfl, h⟩
  · cases h
theorem pL_s {β : Type} {st : List Value} {k : Int64 → List Value → Option β} {z : β} (h : pL none st k = some z) : ∃ x r, st = .long x :: r ∧ k x r = some z := by
  unfold pL at h
  split at h
  · exact ⟨_, _, rfl, h⟩
  · cases h
theorem pLL_s {β : Type} {st : List Value} {k : Int64 → Int64 → List Value → Option β} {z : β} (h : pLL none st k = some z) : ∃ x y r, st = .long y :: .long x :: r ∧ k x y r = some z := by
  unfold pLL at h
  split at h
  · exact ⟨_, _, _, rfl, h⟩
  · cases h
theorem pR_s {β : Type} {st : List Value} {k : Nat → List Value → Option β} {z : β} (h : pR none st k = some z) : ∃ x r, st = .ref x :: r ∧ k x r = some z := by
  unfold pR at h
  split at h
  · exact ⟨_, _, rfl, h⟩
  · cases h
theorem pIR_s {β : Type} {st : List Value} {k : Nat → Int32 → List Value → Option β} {z : β} (h : pIR none st k = some z) : ∃ a x r, st = .int x :: .ref a :: r ∧ k a x r = some z := by
  unfold pIR at h
  split at h
  · exact ⟨_, _, _, rfl, h⟩
  · cases h
theorem pLR_s {β : Type} {st : List Value} {k : Nat → Int64 → List Value → Option β} {z : β} (h : pLR none st k = some z) : ∃ a x r, st = .long x :: .ref a :: r ∧ k a x r = some z := by
  unfold pLR at h
  split at h
  · exact ⟨_, _, _, rfl, h⟩
  · cases h
theorem pRR_s {β : Type} {st : List Value} {k : Nat → Nat → List Value → Option β} {z : β} (h : pRR none st k = some z) : ∃ a x r, st = .ref x :: .ref a :: r ∧ k a x r = some z := by
  unfold pRR at h
  split at h
  · exact ⟨_, _, _, rfl, h⟩
  · cases h
theorem pIIR_s {β : Type} {st : List Value} {k : Nat → Int32 → Int32 → List Value → Option β} {z : β} (h : pIIR none st k = some z) : ∃ a i x r, st = .int x :: .int i :: .ref a :: r ∧ k a i x r = some z := by
  unfold pIIR at h
  split at h
  · exact ⟨_, _, _, _, rfl, h⟩
  · cases h
theorem pRIR_s {β : Type} {st : List Value} {k : Nat → Int32 → Nat → List Value → Option β} {z : β} (h : pRIR none st k = some z) : ∃ a i x r, st = .ref x :: .int i :: .ref a :: r ∧ k a i x r = some z := by
  unfold pRIR at h
  split at h
  · exact ⟨_, _, _, _, rfl, h⟩
  · cases h
theorem if_s {β : Type} {P : Prop} [Decidable P] {a : Option β} {z : β} (h : (if P then a else none) = some z) : P ∧ a = some z := by
  by_cases hP : P
  · rw [if_pos hP] at h; exact ⟨hP, h⟩
  · rw [if_neg hP] at h; cases h
theorem if_n {β : Type} {P : Prop} [Decidable P] {a : Option β} {z : β} (h : (if P then none else a) = some z) : ¬ P ∧ a = some z := by
  by_cases hP : P
  · rw [if_pos hP] at h; cases h
  · rw [if_neg hP] at h; exact ⟨hP, h⟩
theorem jmp_s {β : Type} {pc : Nat} {off : Int} {k : Nat → Option β} {z : β} (h : jmp none pc off k = some z) : ∃ t : Nat, (pc : Int) + off = (t : Int) ∧ k t = some z := by
  unfold jmp at h
  obtain ⟨h1, h2⟩ := if_s h
  exact ⟨_, by omega, h2⟩
theorem asc2_mem {β : Type} : ∀ {t : List (Nat × Nat × β)} {x i : Nat} {b : β}, asc2 t x i = some b → (x, i, b) ∈ t := by
  intro t
  induction t with
  | nil => intro x i b h; cases h
  | cons q r ih =>
    intro x i b h
    obtain ⟨q1, q2, q3⟩ := q
    unfold asc2 at h
    by_cases hq : q1 = x ∧ q2 = i
    · rw [if_pos hq] at h
      cases h
      rw [← hq.1, ← hq.2]
      exact List.mem_cons_self
    · rw [if_neg hq] at h
      exact List.mem_cons_of_mem _ (ih h)
theorem asc_mem {β : Type} : ∀ {t : List (Nat × β)} {i : Nat} {b : β}, asc t i = some b → (i, b) ∈ t := by
  intro t
  induction t with
  | nil => intro i b h; cases h
  | cons q r ih =>
    intro i b h
    obtain ⟨q1, q2⟩ := q
    unfold asc at h
    by_cases hq : q1 = i
    · rw [if_pos hq] at h
      cases h
      rw [← hq]
      exact List.mem_cons_self
    · rw [if_neg hq] at h
      exact List.mem_cons_of_mem _ (ih h)
end G
set_option maxRecDepth 100000 in
theorem iR_ok : ∀ q ∈ iR, lw_tbl[q.2.2.2]? = some (.constant (nm q.1) q.2.1 q.2.2.1) := by decide +kernel
set_option maxRecDepth 100000 in
theorem lR_ok : ∀ q ∈ lR, lw_tbl[q.2.2.2]? = some (.constantLong (nm q.1) q.2.1 q.2.2.1) := by decide +kernel
