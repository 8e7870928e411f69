abbrev SR : Type := (Nat × LV × List Value × Mem) ⊕ (Nat × List Value × List Value × Nat) ⊕ Option Value
def elS {α : Type} (F : α) (K : Nat → LV → List Value → Mem → α) (C : Nat → List Value → List Value → Nat → α) (T : Option Value → α) (r : Option SR) : α := match r with
  | none => F
  | some (.inl (a, b, c, d)) => K a b c d
  | some (.inr (.inl (a, b, c, d))) => C a b c d
  | some (.inr (.inr v)) => T v
def s0K : Nat → LV → List Value → Mem → Option SR := fun a b c d => some (.inl (a, b, c, d))
def s0C : Nat → List Value → List Value → Nat → Option SR := fun a b c d => some (.inr (.inl (a, b, c, d)))
def s0T : Option Value → Option SR := fun v => some (.inr (.inr v))
theorem swt_nat {α β : Type} (f : α → β) (k : Int → α) (dflt : Int) : ∀ (offs : List Int) (lo x : Int), f (swt k dflt offs lo x) = swt (fun a => f (k a)) dflt offs lo x := by
  intro offs
  induction offs with
  | nil => intro lo x; rfl
  | cons a r ih =>
    intro lo x
    unfold swt
    split
    · rfl
    · exact ih _ _
theorem swl_nat {α β : Type} (f : α → β) (k : Int → α) (dflt : Int) : ∀ (ps : List (Int × Int)) (x : Int), f (swl k dflt ps x) = swl (fun a => f (k a)) dflt ps x := by
  intro ps
  induction ps with
  | nil => intro x; rfl
  | cons a r ih =>
    intro x
    obtain ⟨a1, a2⟩ := a
    unfold swl
    split
    · rfl
    · exact ih _
section Nat1
variable {α : Type} (F : α) (K : Nat → LV → List Value → Mem → α) (C : Nat → List Value → List Value → Nat → α) (T : Option Value → α) (d o mxl : Nat) (rt : Option FieldType) (ini : Bool) (pc : Nat) (lv : LV) (st : List Value) (M : Mem)
set_option maxHeartbeats 4000000 in
theorem stA_nat (i : Instr) : stA F K o mxl pc lv st M i = elS F K C T (stA none s0K o mxl pc lv st M i) := by
  unfold stA gI gL gR pI pL pR
  repeat' (first | rfl | split | dsimp only)
set_option maxHeartbeats 4000000 in
theorem stB_nat (i : Instr) : stB F K pc lv st M i = elS F K C T (stB none s0K pc lv st M i) := by
  unfold stB pI pII pL pLL
  repeat' (first | rfl | split | dsimp only)
set_option maxHeartbeats 4000000 in
theorem stH_nat (i : Instr) : stH F K o ini pc lv st M i = elS F K C T (stH none s0K o ini pc lv st M i) := by
  unfold stH pR pIR pLR pRR pIIR pRIR pI pII
  repeat' (first | rfl | split | dsimp only)
set_option maxHeartbeats 4000000 in
theorem stV_nat (i : Instr) : stV F K C d o pc lv st M i = elS F K C T (stV none s0K s0C d o pc lv st M i) := by
  unfold stV pR pI pII pLL
  repeat' (first | rfl | split | dsimp only)
set_option maxHeartbeats 4000000 in
theorem stT_nat (i : Instr) : stT F T rt st i = elS F K C T (stT none s0T rt st i) := by
  unfold stT
  repeat' (first | rfl | split | dsimp only)
theorem jmp_nat {β : Type} (f : α → β) (F : α) (pc : Nat) (off : Int) (k : Nat → α) : f (jmp F pc off k) = jmp (f F) pc off (fun t => f (k t)) := by
  unfold jmp
  split <;> rfl
set_option maxHeartbeats 4000000 in
theorem stJ_nat (i : Instr) : stJ F K pc lv st M i = elS F K C T (stJ none s0K pc lv st M i) := by
  unfold stJ pI pII jmp
  split
  · repeat' (first | rfl | split | dsimp only)
  · repeat' (first | rfl | split | dsimp only)
  · repeat' (first | rfl | split | dsimp only)
  · split
    · split
      · dsimp only
        rw [swt_nat (elS F K C T)]
        congr 1
        funext off
        split <;> rfl
      · rfl
    · rfl
  · split
    · split
      · dsimp only
        rw [swl_nat (elS F K C T)]
        congr 1
        funext off
        split <;> rfl
      · rfl
    · rfl
  · rfl
theorem stC_nat (i : Instr) : stC F K C T d o mxl rt ini pc lv st M i = elS F K C T (stC none s0K s0C s0T d o mxl rt ini pc lv st M i) := by
  unfold stC
  split
  · exact stA_nat F K C T o mxl pc lv st M i
  · exact stB_nat F K C T pc lv st M i
  · exact stJ_nat F K C T pc lv st M i
  · exact stH_nat F K C T o ini pc lv st M i
  · exact stV_nat F K C T d o pc lv st M i
  · exact stT_nat F K C T rt st i
end Nat1
