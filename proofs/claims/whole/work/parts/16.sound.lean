section Grow
variable (d o mxl : Nat) (rt : Option FieldType) (ini : Bool) (pc : Nat) (lv : LV) (st : List Value) (M : Mem)
def gK (M : Mem) : Nat → LV → List Value → Mem → Prop := fun _ _ _ M' => mN M ≤ mN M' ∧ mS M ≤ mS M'
def gC : Nat → List Value → List Value → Nat → Prop := fun _ _ _ _ => True
def gT : Option Value → Prop := fun _ => True
theorem gK_rf {a : Nat} {b : LV} {c : List Value} : gK M a b c M := ⟨Nat.le_refl _, Nat.le_refl _⟩
set_option maxHeartbeats 4000000 in
theorem stA_gr (i : Instr) : stA True (gK M) o mxl pc lv st M i := by
  unfold stA gI gL gR pI pL pR
  repeat' (first | exact trivial | exact gK_rf M | split | dsimp only)
set_option maxHeartbeats 4000000 in
theorem stB_gr (i : Instr) : stB True (gK M) pc lv st M i := by
  unfold stB pI pII pL pLL
  repeat' (first | exact trivial | exact gK_rf M | split | dsimp only)
theorem swt_gr {k : Int → Prop} {dflt : Int} (h : ∀ a, k a) : ∀ (offs : List Int) (lo x : Int), swt k dflt offs lo x := by
  intro offs
  induction offs with
  | nil => intro lo x; exact h _
  | cons a r ih =>
    intro lo x
    unfold swt
    split
    · exact h _
    · exact ih _ _
theorem swl_gr {k : Int → Prop} {dflt : Int} (h : ∀ a, k a) : ∀ (ps : List (Int × Int)) (x : Int), swl k dflt ps x := by
  intro ps
  induction ps with
  | nil => intro x; exact h _
  | cons a r ih =>
    intro x
    obtain ⟨a1, a2⟩ := a
    unfold swl
    split
    · exact h _
    · exact ih _
set_option maxHeartbeats 4000000 in
theorem stJ_gr (i : Instr) : stJ True (gK M) pc lv st M i := by
  unfold stJ pI pII jmp
  split
  · repeat' (first | exact trivial | exact gK_rf M | split | dsimp only)
  · repeat' (first | exact trivial | exact gK_rf M | split | dsimp only)
  · repeat' (first | exact trivial | exact gK_rf M | split | dsimp only)
  · split
    · split
      · refine swt_gr (fun a => ?_) _ _ _
        split
        · exact gK_rf M
        · exact trivial
      · exact trivial
    · exact trivial
  · split
    · split
      · refine swl_gr (fun a => ?_) _ _
        split
        · exact gK_rf M
        · exact trivial
      · exact trivial
    · exact trivial
  · exact trivial
theorem gK_fr {t len sl a : Nat} {b : LV} {c : List Value} : gK M a b c (fresh M t len sl) := ⟨Nat.le_succ _, Nat.le_add_right _ _⟩
theorem gK_gr {n k a : Nat} {b : LV} {c : List Value} : gK M a b c (grid M n k) := by
  obtain ⟨h1, h2, -⟩ := grid_f M n k
  exact ⟨by rw [h1]; omega, by rw [h2]; omega⟩
set_option maxHeartbeats 4000000 in
theorem stH_gr (i : Instr) : stH True (gK M) o ini pc lv st M i := by
  unfold stH pR pIR pLR pRR pIIR pRIR pI pII
  repeat' (first | exact trivial | exact gK_rf M | exact gK_fr M | exact gK_gr M | exact ⟨Nat.le_refl _, Nat.le_refl _⟩ | split | dsimp only)
set_option maxHeartbeats 4000000 in
theorem stV_gr (i : Instr) : stV True (gK M) gC d o pc lv st M i := by
  unfold stV pR pI pII pLL
  repeat' (first | exact trivial | exact gK_rf M | split | dsimp only)
set_option maxHeartbeats 4000000 in
theorem stT_gr (i : Instr) : stT True gT rt st i := by
  unfold stT
  repeat' (first | exact trivial | split)
theorem stC_gr (i : Instr) : stC True (gK M) gC gT d o mxl rt ini pc lv st M i := by
  unfold stC
  split
  · exact stA_gr o mxl pc lv st M i
  · exact stB_gr pc lv st M i
  · exact stJ_gr pc lv st M i
  · exact stH_gr o ini pc lv st M i
  · exact stV_gr d o pc lv st M i
  · exact stT_gr rt st i
end Grow
def sp (m : MT) (d pc : Nat) (lv : LV) (st : List Value) (M : Mem) : Option SR := match asc m.2.2.2.2.2.2.1 pc with
  | none => none
  | some il => stC none s0K s0C s0T d m.1 m.2.2.2.1 m.2.2.2.2.1 m.2.2.2.2.2.1 pc lv st M il.1
def cK (n d mi : Nat) (m : MT) (lv : LV) (M : Mem) : Nat → List Value → List Value → Nat → Option (Option Value × Mem) := fun cm As rest pc' => match d with
  | 0 => none
  | d' + 1 => match run n d' cm 0 (lv_args 0 As) [] M with
    | none => none
    | some (r, M1) => run n (d' + 1) mi pc' (rst m pc' lv) (r.toList ++ rest) M1
theorem run_eq {n d mi pc : Nat} {m : MT} {lv : LV} {st : List Value} {M : Mem} (hm : mt[mi]? = some m) : run (n + 1) d mi pc lv st M = elS none (fun pc' lv' st' M' => run n d mi pc' (rst m pc' lv') st' M') (cK n d mi m lv M) (fun v => some (v, M)) (sp m d pc lv st M) := by
  rw [run, hm]
  dsimp only
  unfold sp
  cases asc m.2.2.2.2.2.2.1 pc with
  | none => rfl
  | some il => exact stC_nat none (fun pc' lv' st' M' => run n d mi pc' (rst m pc' lv') st' M') (cK n d mi m lv M) (fun v => some (v, M)) d m.1 m.2.2.2.1 m.2.2.2.2.1 m.2.2.2.2.2.1 pc lv st M il.1
theorem sp_gr {m : MT} {d pc : Nat} {lv : LV} {st : List Value} {M : Mem} {pc' : Nat} {lv' : LV} {st' : List Value} {M' : Mem} (h : sp m d pc lv st M = some (.inl (pc', lv', st', M'))) : mN M ≤ mN M' ∧ mS M ≤ mS M' := by
  unfold sp at h
  split at h
  · cases h
  · next il hil =>
    have := stC_gr d m.1 m.2.2.2.1 m.2.2.2.2.1 m.2.2.2.2.2.1 pc lv st M il.1
    rw [stC_nat, h] at this
    exact this
theorem run_m {n d mi pc : Nat} {lv : LV} {st : List Value} {M : Mem} {r : Option Value × Mem} (h : run n d mi pc lv st M = some r) : ∃ k m, n = k + 1 ∧ mt[mi]? = some m := by
  cases n with
  | zero => cases h
  | succ k =>
    cases hm : mt[mi]? with
    | none => rw [run, hm] at h; cases h
    | some m => exact ⟨k, m, rfl, rfl⟩
theorem run_gr : ∀ (n d mi pc : Nat) (lv : LV) (st : List Value) (M : Mem) (v : Option Value) (M' : Mem), run n d mi pc lv st M = some (v, M') → mN M ≤ mN M' ∧ mS M ≤ mS M' := by
  intro n
  induction n with
  | zero => intro d mi pc lv st M v M' h; cases h
  | succ n ih =>
    intro d mi pc lv st M v M' h
    obtain ⟨k, m, -, hm⟩ := run_m h
    rw [run_eq hm] at h
    unfold elS at h
    split at h
    · cases h
    · next hs =>
      have h1 := sp_gr hs
      have h2 := ih _ _ _ _ _ _ _ _ h
      omega
    · unfold cK at h
      split at h
      · cases h
      · split at h
        · cases h
        · next hr =>
          have h1 := ih _ _ _ _ _ _ _ _ hr
          have h2 := ih _ _ _ _ _ _ _ _ h
          omega
    · cases h
      omega
/-- the end of a method, with what the run says -/
def HT (w : WP) (p : Program) (l : Launch) (e : Env) (R : Room) (s : State) (m : MethodId) (args : Array Value) (below : List Frame) (meth : Method) (c : Code) (cc : ByteArray) (rt : Option FieldType) (n0 s0 : Nat) (Q : State → Prop) (v : Option Value) (M' : Mem) : Prop :=
  ∀ (i : Instr) (pc : Nat) (st : List Value) (ls : Array Slot) (H : Heap) (locs : List Loc), decode cc pc = .ok (i, 1) → stT none (fun v => some (v, M')) rt st i = some (v, M') → HR w M' H → (∀ q ∈ locs, wB w ≤ q.base) → W p l e R s m args below meth c H locs (mN M' - n0) (mS M' - s0) Q (F0 m pc ls (st.map (mv w)))
def BOK (w : WP) (l : Launch) (n : Nat) : Prop := ∀ (d mi : Nat) (mm : MT) (pc : Nat) (lv : LV) (st : List Value) (M : Mem) (v : Option Value) (M' : Mem), mt[mi]? = some mm → run n d mi pc lv st M = some (v, M') →
  ∀ (p : Program) (e : Env) (R : Room) (s : State) (m : MethodId) (args : Array Value) (below : List Frame) (meth : Method) (c : Code) (Q : State → Prop) (n0 s0 : Nat), Cx w p R s m args meth c mm.2.2.1 mm.1 mm.2.2.2.1 n0 s0 (mN M') (mS M') mm.2.2.2.2.2.1 → d ≤ R.frames → 64 * d ≤ R.locals → HT w p l e R s m args below meth c mm.2.2.1 mm.2.2.2.2.1 n0 s0 Q v M' →
    Gd w p l e R s m args below meth c mm.2.2.2.1 n0 s0 Q pc lv st M
theorem lv_args_mv (w : WP) : ∀ (As : List Value) (i : Nat), lv_args i (As.map (mv w)) = mvl w (lv_args i As) := by
  intro As
  induction As with
  | nil => intro i; rfl
  | cons v r ih =>
    intro i
    show (i, mv w v) :: lv_args (if (mv w v).category = 2 then i + 2 else i + 1) (r.map (mv w)) = (i, mv w v) :: mvl w (lv_args (if v.category = 2 then i + 2 else i + 1) r)
    rw [mv_cat, ih]
theorem sl_len (As : List Value) : (lg_sl As).length = (As.map fun v => v.category).sum := by
  induction As with
  | nil => rfl
  | cons v r ih =>
    have h1 : lg_sl (v :: r) = (if v.category = 2 then [.val v, .second] else [.val v]) ++ lg_sl r := rfl
    rw [h1, List.length_append, ih, List.map_cons, List.sum_cons]
    rcases lv_cat v with h | h <;> rw [h] <;> rfl
set_option maxHeartbeats 4000000 in
theorem met_ok {w : WP} {l : Launch} {n : Nat} (hB : BOK w l n) (hwz : (wH w).size = wB w) {d cm : Nat} {mm : MT} {As : List Value} {M : Mem} {v : Option Value} {M1 : Mem} (hm : mt[cm]? = some mm) (hn : mm.2.1.name ≠ "law") (hr : run n d cm 0 (lv_args 0 As) [] M = some (v, M1)) (hsum : (As.map fun v => v.category).sum ≤ mm.2.2.2.1) :
    Met l mm.2.1 [.code mm.2.1 mm.2.2.1 mm.2.2.2.1 mm.2.2.2.2.1] (Rm d (mN M1 - mN M) (mS M1 - mS M)) (PcM w As M) (QcM w v M1) (mN M1 - mN M) (mS M1 - mS M) (Aw w) := by
  have hmo : ∃ q, mOK mm q := by
    rcases mOK_all mm (List.mem_of_getElem? hm) with rfl | h
    · exact absurd rfl hn
    · exact h
  obtain ⟨q, mo1, mo2, ⟨mo3, mo4, mo5, mo6⟩, mo7, mo8⟩ := hmo
  refine Met.ofW (cc := mm.2.2.1) (maxL := mm.2.2.2.1) (ret := mm.2.2.2.2.1) mo4 rfl ?_
  intro p e s m args below meth c s₁ B hml hv
  obtain ⟨rfl, hHR, hSt⟩ := hv
  have hx := B.exec
  have hb := B.bytes
  have hrt := B.returns
  have hlocks := B.notSynchronized
  have hown : s.vm.findClass (nm mm.1) = some m.cls := by rw [← mo3]; exact findClass_of_methodNamed B.named
  have cx : Cx w p (headSpec [.code mm.2.1 mm.2.2.1 mm.2.2.2.1 mm.2.2.2.2.1] (Rm d (mN M1 - mN M) (mS M1 - mS M))).room s m (As.map (mv w)).toArray meth c mm.2.2.1 mm.1 mm.2.2.2.1 (mN M) (mS M) (mN M1) (mS M1) mm.2.2.2.2.2.1 :=
    ⟨hx, hb, hml, hown, hSt, fun q hq => hHR.2.1 q hq, ⟨hHR.1, hwz⟩, Nat.le_refl _, Nat.le_refl _, fun hi => by rw [(name_of_methodNamed B.named B.method).1]; exact mo5 hi⟩
  have hl := lv_entry (As.map (mv w)) (n := mm.2.2.2.1) (by rw [sl_len, mv_sum]; exact hsum)
  rw [lg_entry_eq]
  rw [lv_args_mv] at hl
  have hG := hB d cm mm 0 (lv_args 0 As) [] M v M1 hm hr p e _ s m _ below meth c (MQ below (QcM w v M1) (As.map (mv w)).toArray s (mN M1 - mN M) (mS M1 - mS M) (Aw w)) (mN M) (mS M) cx (Nat.le_refl _) (Nat.le_refl _) ?_
  · have := hG s.heap [] _ hHR (Nat.le_refl _) (Nat.le_refl _) (fun q h => by cases h) hl
    rw [Nat.sub_self, Nat.sub_self] at this
    exact this
  · intro i pc st ls H locs dg ht hH hlc
    unfold stT at ht
    split at ht
    · split at ht
      · split at ht
        · next hrr =>
          cases ht
          exact W.iret hx hb (by rw [hrt, hrr]) (fun t ht hW => ⟨rfl, by rw [ht]; exact hH⟩) hlc dg
        · next hrr =>
          obtain ⟨hv, ht⟩ := if_s ht
          cases ht
          exact W.zret hx hb (by rw [hrt, hrr]) (by rcases hv with rfl | rfl <;> rfl) (fun t ht hW => ⟨rfl, by rw [ht]; exact hH⟩) hlc dg
        · next hrr =>
          obtain ⟨hv, ht⟩ := if_s ht
          cases ht
          exact W.zret hx hb (by rw [hrt, hrr]) hv (fun t ht hW => ⟨rfl, by rw [ht]; exact hH⟩) hlc dg
        · cases ht
      · cases ht
    · split at ht
      · split at ht
        · next hrr =>
          cases ht
          exact W.lret hx hb (by rw [hrt, hrr]) (fun t ht hW => ⟨rfl, by rw [ht]; exact hH⟩) hlc dg
        · cases ht
      · cases ht
    · split at ht
      · split at ht
        · next hrr =>
          cases ht
          exact W.aret (v := .ref _) hx hb (by rw [hrt, hrr]) (Or.inl ⟨_, rfl⟩) (Or.inr ⟨_, rfl⟩) (fun t ht hW => ⟨rfl, by rw [ht]; exact hH⟩) hlc dg
        · cases ht
      · cases ht
    · split at ht
      · split at ht
        · next hrr =>
          cases ht
          exact W.vret hx hb (by rw [hrt, hrr]) (fun t ht hW => ⟨rfl, by rw [ht]; exact hH⟩) hlc dg
        · cases ht
      · cases ht
    · cases ht
