/-! ===== what a run comes to, as a condition on what is wanted of its end ===== -/
def Wn (d mi pc : Nat) (lv : LV) (st : List Value) (M : Mem) (Q : Option Value → Mem → Prop) : Prop := ∃ n v M', run n d mi pc lv st M = some (v, M') ∧ Q v M'
theorem run_up1 : ∀ (n d mi pc : Nat) (lv : LV) (st : List Value) (M : Mem) (r : Option Value × Mem), run n d mi pc lv st M = some r → run (n + 1) d mi pc lv st M = some r := by
  intro n
  induction n with
  | zero => intro d mi pc lv st M r h; cases h
  | succ n ih =>
    intro d mi pc lv st M r h
    obtain ⟨k, m, -, hm⟩ := run_m h
    rw [run_eq hm] at h ⊢
    generalize sp m d pc lv st M = x at h ⊢
    unfold elS at h ⊢
    match x, h with
    | some (.inl (a, b, c, d)), h => exact ih _ _ _ _ _ _ _ h
    | some (.inr (.inl (cm, As, rest, pc'))), h =>
      dsimp only at h ⊢
      unfold cK at h ⊢
      match d, h with
      | d' + 1, h =>
        dsimp only at h ⊢
        cases hr : run n d' cm 0 (lv_args 0 As) [] M with
        | none => rw [hr] at h; cases h
        | some q =>
          rw [hr] at h
          rw [ih _ _ _ _ _ _ _ hr]
          exact ih _ _ _ _ _ _ _ h
    | some (.inr (.inr v)), h => exact h
theorem run_up {n k d mi pc : Nat} {lv : LV} {st : List Value} {M : Mem} {r : Option Value × Mem} (hk : n ≤ k) (h : run n d mi pc lv st M = some r) : run k d mi pc lv st M = some r := by
  obtain ⟨j, rfl⟩ := Nat.le.dest hk
  clear hk
  induction j with
  | zero => exact h
  | succ j ih => exact run_up1 _ _ _ _ _ _ _ _ ih
theorem Wn_eq {d mi pc : Nat} {m : MT} {lv : LV} {st : List Value} {M : Mem} {Q : Option Value → Mem → Prop} (hm : mt[mi]? = some m) : Wn d mi pc lv st M Q ↔ elS False (fun pc' lv' st' M' => Wn d mi pc' (rst m pc' lv') st' M' Q) (fun cm As rest pc' => ∃ d', d = d' + 1 ∧ Wn d' cm 0 (lv_args 0 As) [] M (fun r M1 => Wn d mi pc' (rst m pc' lv) (r.toList ++ rest) M1 Q)) (fun v => Q v M) (sp m d pc lv st M) := by
  constructor
  · rintro ⟨n, v, M', h, hq⟩
    obtain ⟨k, -, rfl, -⟩ := run_m h
    rw [run_eq hm] at h
    generalize sp m d pc lv st M = x at h ⊢
    unfold elS at h ⊢
    match x, h with
    | some (.inl (a, b, c, d)), h => exact ⟨_, _, _, h, hq⟩
    | some (.inr (.inl (cm, As, rest, pc'))), h =>
      dsimp only at h ⊢
      unfold cK at h
      match d, h with
      | d' + 1, h =>
        dsimp only at h ⊢
        cases hr : run k d' cm 0 (lv_args 0 As) [] M with
        | none => rw [hr] at h; cases h
        | some q =>
          obtain ⟨r, M1⟩ := q
          rw [hr] at h
          exact ⟨d', rfl, _, _, _, hr, _, _, _, h, hq⟩
    | some (.inr (.inr v)), h =>
      cases h
      exact hq
  · intro h
    cases hx : sp m d pc lv st M with
    | none => rw [hx] at h; cases h
    | some y =>
      rw [hx] at h
      unfold elS at h
      match y, hx, h with
      | .inl (a, b, c, d1), hx, h =>
        obtain ⟨n, v, M', h1, h2⟩ := h
        exact ⟨n + 1, v, M', by rw [run_eq hm, hx]; exact h1, h2⟩
      | .inr (.inl (cm, As, rest, pc')), hx, h =>
        obtain ⟨d', rfl, n, r, M1, h1, n2, v, M', h2, h3⟩ := h
        refine ⟨max n n2 + 1, v, M', ?_, h3⟩
        rw [run_eq hm, hx]
        show cK (max n n2) (d' + 1) mi m lv M cm As rest pc' = _
        unfold cK
        dsimp only
        rw [run_up (Nat.le_max_left n n2) h1]
        exact run_up (Nat.le_max_right n n2) h2
      | .inr (.inr v), hx, h =>
        exact ⟨1, v, M, by rw [run_eq hm, hx]; rfl, h⟩
theorem Wn_mono {d mi pc : Nat} {lv : LV} {st : List Value} {M : Mem} {Q Q' : Option Value → Mem → Prop} (h : ∀ v M', Q v M' → Q' v M') (hw : Wn d mi pc lv st M Q) : Wn d mi pc lv st M Q' := by
  obtain ⟨n, v, M', h1, h2⟩ := hw
  exact ⟨n, v, M', h1, h _ _ h2⟩
def shp (rt : Option FieldType) (v : Option Value) : Prop := match rt with
  | none => v = none
  | some .long => ∃ x, v = some (.long x)
  | some (.object _) => ∃ x, v = some (.ref x)
  | some _ => ∃ x, v = some (.int x)
theorem stT_sh (rt : Option FieldType) (st : List Value) (i : Instr) : stT True (shp rt) rt st i := by
  unfold stT
  split
  · split
    · split
      · exact ⟨_, rfl⟩
      · split
        · exact ⟨_, rfl⟩
        · exact trivial
      · split
        · exact ⟨_, rfl⟩
        · exact trivial
      · exact trivial
    · exact trivial
  · split
    · split
      · exact ⟨_, rfl⟩
      · exact trivial
    · exact trivial
  · split
    · split
      · exact ⟨_, rfl⟩
      · exact trivial
    · exact trivial
  · split
    · split
      · rfl
      · exact trivial
    · exact trivial
  · exact trivial
section Sh
variable (d o mxl : Nat) (rt : Option FieldType) (ini : Bool) (pc : Nat) (lv : LV) (st : List Value) (M : Mem)
theorem el_tr {K : Nat → LV → List Value → Mem → Prop} {C : Nat → List Value → List Value → Nat → Prop} {T : Option Value → Prop} (hK : ∀ a b c d, K a b c d) (hC : ∀ a b c d, C a b c d) (hT : ∀ v, T v) (r : Option SR) : elS True K C T r := by
  unfold elS
  split
  · exact trivial
  · exact hK _ _ _ _
  · exact hC _ _ _ _
  · exact hT _
theorem sp_sh {m : MT} {d pc : Nat} {lv : LV} {st : List Value} {M : Mem} {v : Option Value} (h : sp m d pc lv st M = some (.inr (.inr v))) : shp m.2.2.2.2.1 v := by
  unfold sp at h
  split at h
  · cases h
  · next il hil =>
    have key : stC True (fun _ _ _ _ => True) (fun _ _ _ _ => True) (shp m.2.2.2.2.1) d m.1 m.2.2.2.1 m.2.2.2.2.1 m.2.2.2.2.2.1 pc lv st M il.1 := by
      unfold stC
      split
      · rw [stA_nat _ _ (fun _ _ _ _ => True) (fun _ => True)]; exact el_tr (fun _ _ _ _ => trivial) (fun _ _ _ _ => trivial) (fun _ => trivial) _
      · rw [stB_nat _ _ (fun _ _ _ _ => True) (fun _ => True)]; exact el_tr (fun _ _ _ _ => trivial) (fun _ _ _ _ => trivial) (fun _ => trivial) _
      · rw [stJ_nat _ _ (fun _ _ _ _ => True) (fun _ => True)]; exact el_tr (fun _ _ _ _ => trivial) (fun _ _ _ _ => trivial) (fun _ => trivial) _
      · rw [stH_nat _ _ (fun _ _ _ _ => True) (fun _ => True)]; exact el_tr (fun _ _ _ _ => trivial) (fun _ _ _ _ => trivial) (fun _ => trivial) _
      · rw [stV_nat _ _ _ (fun _ => True)]; exact el_tr (fun _ _ _ _ => trivial) (fun _ _ _ _ => trivial) (fun _ => trivial) _
      · exact stT_sh _ _ _
    rw [stC_nat, h] at key
    exact key
end Sh
theorem run_sh : ∀ (n d mi pc : Nat) (m : MT) (lv : LV) (st : List Value) (M : Mem) (v : Option Value) (M' : Mem), mt[mi]? = some m → run n d mi pc lv st M = some (v, M') → shp m.2.2.2.2.1 v := by
  intro n
  induction n with
  | zero => intro d mi pc m lv st M v M' hm h; cases h
  | succ n ih =>
    intro d mi pc m lv st M v M' hm h
    rw [run_eq hm] at h
    unfold elS at h
    split at h
    · cases h
    · exact ih _ _ _ _ _ _ _ _ _ hm h
    · unfold cK at h
      split at h
      · cases h
      · split at h
        · cases h
        · exact ih _ _ _ _ _ _ _ _ _ hm h
    · next hs =>
      cases h
      exact sp_sh hs
def QI (Q : Int32 → Mem → Prop) : Option Value → Mem → Prop := fun r M1 => match r with
  | some (.int x) => Q x M1
  | _ => False
def QL (Q : Int64 → Mem → Prop) : Option Value → Mem → Prop := fun r M1 => match r with
  | some (.long x) => Q x M1
  | _ => False
def QA (Q : Nat → Mem → Prop) : Option Value → Mem → Prop := fun r M1 => match r with
  | some (.ref x) => Q x M1
  | _ => False
def QV (Q : Mem → Prop) : Option Value → Mem → Prop := fun r M1 => match r with
  | none => Q M1
  | _ => False
def WI (d mi : Nat) (As : List Value) (M : Mem) (Q : Int32 → Mem → Prop) : Prop := Wn d mi 0 (lv_args 0 As) [] M (QI Q)
def WL (d mi : Nat) (As : List Value) (M : Mem) (Q : Int64 → Mem → Prop) : Prop := Wn d mi 0 (lv_args 0 As) [] M (QL Q)
def WA (d mi : Nat) (As : List Value) (M : Mem) (Q : Nat → Mem → Prop) : Prop := Wn d mi 0 (lv_args 0 As) [] M (QA Q)
def WV (d mi : Nat) (As : List Value) (M : Mem) (Q : Mem → Prop) : Prop := Wn d mi 0 (lv_args 0 As) [] M (QV Q)
theorem QI_s {Q : Int32 → Mem → Prop} {r : Option Value} {M : Mem} (h : QI Q r M) : ∃ x, r = some (.int x) ∧ Q x M := by
  unfold QI at h
  split at h
  · exact ⟨_, rfl, h⟩
  · cases h
theorem QL_s {Q : Int64 → Mem → Prop} {r : Option Value} {M : Mem} (h : QL Q r M) : ∃ x, r = some (.long x) ∧ Q x M := by
  unfold QL at h
  split at h
  · exact ⟨_, rfl, h⟩
  · cases h
theorem QA_s {Q : Nat → Mem → Prop} {r : Option Value} {M : Mem} (h : QA Q r M) : ∃ x, r = some (.ref x) ∧ Q x M := by
  unfold QA at h
  split at h
  · exact ⟨_, rfl, h⟩
  · cases h
theorem QV_s {Q : Mem → Prop} {r : Option Value} {M : Mem} (h : QV Q r M) : r = none ∧ Q M := by
  unfold QV at h
  split at h
  · exact ⟨rfl, h⟩
  · cases h
def CW (rt : Option FieldType) (d cm : Nat) (As : List Value) (M : Mem) (K : List Value → Mem → Prop) : Prop := match rt with
  | none => WV d cm As M (fun M1 => K [] M1)
  | some .long => WL d cm As M (fun x M1 => K [.long x] M1)
  | some (.object _) => WA d cm As M (fun x M1 => K [.ref x] M1)
  | some _ => WI d cm As M (fun x M1 => K [.int x] M1)
def rtOf (cm : Nat) : Option FieldType := (mt.getD cm m_LAW_law).2.2.2.2.1
theorem CW_iff {d cm : Nat} {As : List Value} {M : Mem} {K : List Value → Mem → Prop} : CW (rtOf cm) d cm As M K ↔ Wn d cm 0 (lv_args 0 As) [] M (fun r M1 => K r.toList M1) := by
  constructor
  · intro h
    unfold CW at h
    split at h
    · exact Wn_mono (fun v M' q => by obtain ⟨rfl, q⟩ := QV_s q; exact q) h
    · exact Wn_mono (fun v M' q => by obtain ⟨x, rfl, q⟩ := QL_s q; exact q) h
    · exact Wn_mono (fun v M' q => by obtain ⟨x, rfl, q⟩ := QA_s q; exact q) h
    · exact Wn_mono (fun v M' q => by obtain ⟨x, rfl, q⟩ := QI_s q; exact q) h
  · rintro ⟨n, v, M', h, q⟩
    obtain ⟨k, m, -, hm⟩ := run_m h
    have hs := run_sh _ _ _ _ _ _ _ _ _ _ hm h
    have e : rtOf cm = m.2.2.2.2.1 := by unfold rtOf; rw [List.getD_eq_getElem?_getD, hm]; rfl
    rw [← e] at hs
    unfold CW
    unfold shp at hs
    split
    · next hr => rw [hr] at hs; rw [hs] at h q; exact ⟨n, none, M', h, q⟩
    · next hr => rw [hr] at hs; obtain ⟨x, rfl⟩ := hs; exact ⟨n, _, M', h, q⟩
    · next hr => rw [hr] at hs; obtain ⟨x, rfl⟩ := hs; exact ⟨n, _, M', h, q⟩
    · next h1 h2 hr =>
      have : ∃ x, v = some (.int x) := by
        rw [hr] at hs
        split at hs
        · next hh => cases hh
        · next hh => cases hh; exact absurd rfl h1
        · next hh => cases hh; exact absurd rfl (h2 _)
        · exact hs
      obtain ⟨x, rfl⟩ := this
      exact ⟨n, _, M', h, q⟩
/-- some steps at once, as far as calls and heads of loops -/
def sy : Nat → Nat → Nat → Nat → LV → List Value → Mem → (Option Value → Mem → Prop) → Prop
  | 0, d, mi, pc, lv, st, M, Q => Wn d mi pc lv st M Q
  | n + 1, d, mi, pc, lv, st, M, Q => match mt[mi]? with
    | none => False
    | some m => match asc m.2.2.2.2.2.2.1 pc with
      | none => False
      | some il => stC False (fun pc' lv' st' M' => match asc m.2.2.2.2.2.2.2 pc' with
            | some ks => Wn d mi pc' (lvK ks lv') st' M' Q
            | none => sy n d mi pc' lv' st' M' Q)
          (fun cm As rest pc' => match d with
            | 0 => False
            | d' + 1 => CW (rtOf cm) d' cm As M (fun vs M1 => sy n (d' + 1) mi pc' (rst m pc' lv) (vs ++ rest) M1 Q))
          (fun v => Q v M) d m.1 m.2.2.2.1 m.2.2.2.2.1 m.2.2.2.2.2.1 pc lv st M il.1
theorem el_iff {K K' : Nat → LV → List Value → Mem → Prop} {C C' : Nat → List Value → List Value → Nat → Prop} {T : Option Value → Prop} (hK : ∀ a b c d, K a b c d ↔ K' a b c d) (hC : ∀ a b c d, C a b c d ↔ C' a b c d) (r : Option SR) : elS False K C T r ↔ elS False K' C' T r := by
  unfold elS
  split
  · exact Iff.rfl
  · exact hK _ _ _ _
  · exact hC _ _ _ _
  · exact Iff.rfl
theorem sy_iff : ∀ (n d mi pc : Nat) (lv : LV) (st : List Value) (M : Mem) (Q : Option Value → Mem → Prop), Wn d mi pc lv st M Q ↔ sy n d mi pc lv st M Q := by
  intro n
  induction n with
  | zero => intro d mi pc lv st M Q; exact Iff.rfl
  | succ n ih =>
    intro d mi pc lv st M Q
    rw [sy]
    cases hm : mt[mi]? with
    | none =>
      constructor
      · rintro ⟨k, v, M', h, -⟩
        obtain ⟨_, m, -, hm2⟩ := run_m h
        rw [hm] at hm2
        cases hm2
      · intro h; cases h
    | some m =>
      rw [Wn_eq hm]
      dsimp only
      unfold sp
      cases hil : asc m.2.2.2.2.2.2.1 pc with
      | none => exact Iff.rfl
      | some il =>
        dsimp only
        rw [stC_nat (α := Prop)]
        refine el_iff (fun a b c e => ?_) (fun a b c e => ?_) _
        · unfold rst
          cases asc m.2.2.2.2.2.2.2 a with
          | none => exact ih _ _ _ _ _ _ _
          | some ks => exact Iff.rfl
        · cases d with
          | zero =>
            constructor
            · rintro ⟨d', h, -⟩; omega
            · intro h; cases h
          | succ d' =>
            dsimp only
            rw [CW_iff]
            constructor
            · rintro ⟨d2, h2, h⟩
              have : d' = d2 := by omega
              subst this
              exact Wn_mono (fun v M' q => (ih _ _ _ _ _ _ _).mp q) h
            · intro h
              exact ⟨d', rfl, Wn_mono (fun v M' q => (ih _ _ _ _ _ _ _).mpr q) h⟩
