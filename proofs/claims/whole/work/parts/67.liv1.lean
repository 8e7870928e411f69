/-! ===== lives: rows of herders, in two orders ===== -/
/-- the names of a row of herders, tied one behind the other -/
def jn (ns : List (List Nat)) (s : List Nat) : List Nat := s.foldl (fun a h => tieAll a (nmO ns h)) []
theorem jn_app (ns : List (List Nat)) (s : List Nat) (h : Nat) : jn ns (s ++ [h]) = tieAll (jn ns s) (nmO ns h) := by
  unfold jn
  rw [List.foldl_append]
  rfl
/-- different herders that there are -/
def vldB (n : Nat) : List Nat → Bool
  | [] => true
  | x :: s => decide (x < n) && (!(s.contains x)) && vldB n s
theorem vld_iff (n : Nat) : ∀ s, vldB n s = true ↔ (∀ x ∈ s, x < n) ∧ s.Nodup := by
  intro s
  induction s with
  | nil => simp [vldB]
  | cons x s ih =>
    simp only [vldB, Bool.and_eq_true, decide_eq_true_eq, ih, Bool.not_eq_true', List.contains_eq_mem, decide_eq_false_iff_not, List.nodup_cons, List.mem_cons, forall_eq_or_imp]
    constructor
    · rintro ⟨⟨a, b⟩, c, d⟩; exact ⟨⟨a, c⟩, b, d⟩
    · rintro ⟨⟨a, c⟩, b, d⟩; exact ⟨⟨a, b⟩, c, d⟩
/-- the set of a row's herders -/
def msk (n : Nat) : List Nat → Nat
  | [] => 0
  | x :: s => if x < n then msk n s ||| 2 ^ x else msk n s
theorem pop_or : ∀ m : Fin 64, ∀ x : Fin 6, (m.1 ||| 2 ^ x.1) < 64 ∧ (m.1.testBit x.1 = false → pop (m.1 ||| 2 ^ x.1) = pop m.1 + 1) ∧ (m.1.testBit x.1 = true → (m.1 ||| 2 ^ x.1) = m.1) := by decide +kernel
theorem msk_p {n : Nat} (hn : n ≤ 6) : ∀ s, msk n s < 64 ∧ pop (msk n s) ≤ s.length ∧ (∀ x, (msk n s).testBit x = (decide (x < n) && s.contains x)) ∧ (pop (msk n s) = s.length ↔ vldB n s = true) ∧ msk n s < 2 ^ n := by
  intro s
  induction s with
  | nil => exact ⟨(show 0 < 64 by omega), (show pop 0 ≤ 0 by decide), fun x => by simp [msk], by simp [msk, vldB, pop], Nat.pow_pos (by omega)⟩
  | cons y s ih =>
    obtain ⟨i1, i2, i3, i4, i5⟩ := ih
    by_cases c : y < n
    · have e : msk n (y :: s) = msk n s ||| 2 ^ y := by show (if y < n then _ else _) = _; rw [if_pos c]
      obtain ⟨p1, p2, p3⟩ := pop_or ⟨msk n s, i1⟩ ⟨y, by omega⟩
      have p1 : msk n s ||| 2 ^ y < 64 := p1
      have p2 : (msk n s).testBit y = false → pop (msk n s ||| 2 ^ y) = pop (msk n s) + 1 := p2
      have p3 : (msk n s).testBit y = true → (msk n s ||| 2 ^ y) = msk n s := p3
      rw [e, List.length_cons]
      have ty := i3 y
      rw [decide_eq_true c, Bool.true_and] at ty
      refine ⟨p1, ?_, fun x => ?_, ?_, Nat.or_lt_two_pow i5 (Nat.pow_lt_pow_right (by omega) c)⟩
      · cases q : s.contains y with
        | true => rw [p3 (ty.trans q)]; omega
        | false => rw [p2 (ty.trans q)]; omega
      · rw [Nat.testBit_or, i3 x, Nat.testBit_two_pow, List.contains_cons]
        by_cases xy : x = y
        · rw [xy, decide_eq_true c]; simp
        · have : ¬ y = x := fun q => xy q.symm
          rw [eb_f xy, Bool.false_or, decide_eq_false this, Bool.or_false]
      · show _ ↔ (decide (y < n) && (!(s.contains y)) && vldB n s) = true
        rw [decide_eq_true c, Bool.true_and]
        cases q : s.contains y with
        | true =>
          rw [p3 (ty.trans q)]
          simp only [Bool.not_true, Bool.false_and]
          constructor
          · intro r; omega
          · intro r; cases r
        | false =>
          rw [p2 (ty.trans q)]
          simp only [Bool.not_false, Bool.true_and]
          rw [← i4]
          omega
    · have e : msk n (y :: s) = msk n s := by show (if y < n then _ else _) = _; rw [if_neg c]
      rw [e, List.length_cons]
      refine ⟨i1, by omega, fun x => ?_, ?_, i5⟩
      · rw [i3 x, List.contains_cons]
        by_cases xy : x = y
        · rw [xy, decide_eq_false c, Bool.false_and, Bool.false_and]
        · rw [eb_f xy, Bool.false_or]
      · show _ ↔ (decide (y < n) && (!(s.contains y)) && vldB n s) = true
        rw [decide_eq_false c, Bool.false_and, Bool.false_and]
        constructor
        · intro r; omega
        · intro r; cases r
theorem vld_len {n : Nat} (hn : n ≤ 6) {s : List Nat} (h : vldB n s = true) : s.length ≤ n := by
  obtain ⟨i1, i2, i3, i4, i5⟩ := msk_p hn s
  rw [← i4.mpr h]
  exact popn_F ⟨n, by omega⟩ ⟨msk n s, i1⟩ i5
/-- the class' order -/
def vis (n : Nat) : Nat → List Nat → List (List Nat)
  | 0, _ => []
  | f + 1, pre => (List.range' 0 n).flatMap (fun h => if h ∈ pre then [] else (pre ++ [h]) :: vis n f (pre ++ [h]))
def ext (n : Nat) : Nat → List Nat → List (List Nat)
  | 0, pre => [pre]
  | m + 1, pre => (List.range' 0 n).flatMap (fun h => if h ∈ pre then [] else ext n m (pre ++ [h]))
theorem vis_mem (n : Nat) : ∀ f pre s, s ∈ vis n f pre → pre.length < s.length ∧ s.length ≤ pre.length + f ∧ ((∀ x ∈ pre, x < n) → pre.Nodup → (∀ x ∈ s, x < n) ∧ s.Nodup) := by
  intro f
  induction f with
  | zero => intro pre s h; cases h
  | succ f ih =>
    intro pre s h
    rw [vis, List.mem_flatMap] at h
    obtain ⟨x, hx, h⟩ := h
    have hxn : x < n := by
      have := List.mem_range'.mp hx
      obtain ⟨i, i1, i2⟩ := this
      omega
    by_cases c : x ∈ pre
    · rw [if_pos c] at h; cases h
    · rw [if_neg c] at h
      have pv : (∀ y ∈ pre, y < n) → pre.Nodup → (∀ y ∈ pre ++ [x], y < n) ∧ (pre ++ [x]).Nodup := fun a b => by
        refine ⟨fun y hy => ?_, ?_⟩
        · rcases List.mem_append.mp hy with q | q
          · exact a y q
          · rw [List.mem_singleton.mp q]; exact hxn
        · rw [List.nodup_append]
          refine ⟨b, by simp, fun y hy z hz => ?_⟩
          rw [List.mem_singleton.mp hz]
          intro q
          rw [q] at hy
          exact c hy
      rcases List.mem_cons.mp h with q | q
      · rw [q, List.length_append, List.length_singleton]
        exact ⟨by omega, by omega, pv⟩
      · obtain ⟨j1, j2, j3⟩ := ih _ _ q
        rw [List.length_append, List.length_singleton] at j1 j2
        exact ⟨by omega, by omega, fun a b => j3 (pv a b).1 (pv a b).2⟩
theorem vis_fil (n : Nat) : ∀ f m pre, m + 1 ≤ f → (vis n f pre).filter (fun s => decide (s.length = pre.length + (m + 1))) = ext n (m + 1) pre := by
  intro f
  induction f with
  | zero => intro m pre h; omega
  | succ f ih =>
    intro m pre h
    rw [vis, ext, List.filter_flatMap]
    congr 1
    funext x
    show List.filter _ (if x ∈ pre then [] else _) = _
    by_cases c : x ∈ pre
    · rw [if_pos c, if_pos c]; rfl
    · rw [if_neg c, if_neg c]
      cases m with
      | zero =>
        rw [List.filter_cons_of_pos (by simp)]
        have : List.filter (fun s => decide (s.length = pre.length + (0 + 1))) (vis n f (pre ++ [x])) = [] := by
          rw [List.filter_eq_nil_iff]
          intro s hs
          have := (vis_mem n f _ s hs).1
          rw [List.length_append, List.length_singleton] at this
          simp only [decide_eq_true_eq]
          omega
        rw [this]
        rfl
      | succ m =>
        rw [List.filter_cons_of_neg (by simp)]
        have := ih m (pre ++ [x]) (by omega)
        rw [List.length_append, List.length_singleton] at this
        rw [← this]
        congr 1
        funext s
        rw [show pre.length + 1 + (m + 1) = pre.length + (m + 1 + 1) by omega]
/-- the model's order -/
def cdl (m : Nat) : List (List Nat) := (List.range' 0 (6 ^ m)).map (fun q => spl q m)
theorem spl_add (a m c : Nat) : ∀ k, k ≤ m → spl (a * 6 ^ m + c) k = spl c k := by
  intro k
  induction k with
  | zero => intro _; rfl
  | succ k ih =>
    intro hk
    show ((a * 6 ^ m + c) / 6 ^ k % 6) :: spl (a * 6 ^ m + c) k = (c / 6 ^ k % 6) :: spl c k
    rw [ih (by omega)]
    congr 1
    obtain ⟨r, hr⟩ : ∃ r, m = k + 1 + r := ⟨m - (k + 1), by omega⟩
    have e : a * 6 ^ m = (a * 6 ^ r * 6) * 6 ^ k := by rw [hr, Nat.pow_add, Nat.pow_succ]; simp only [Nat.mul_comm, Nat.mul_left_comm, Nat.mul_assoc]
    rw [e, Nat.add_comm, Nat.add_mul_div_right _ _ (Nat.pow_pos (by omega)), Nat.add_mul_mod_self_right]
theorem cdl_blk (m : Nat) : ∀ j a, a + j ≤ 6 → (List.range' (a * 6 ^ m) (j * 6 ^ m)).map (fun q => spl q (m + 1)) = (List.range' a j).flatMap (fun x => (cdl m).map (fun s => x :: s)) := by
  intro j
  induction j with
  | zero => intro a _; rw [Nat.zero_mul]; rfl
  | succ j ih =>
    intro a ha
    rw [Nat.succ_mul, Nat.add_comm (j * 6 ^ m), ← List.range'_append_1, List.map_append, List.range'_succ, List.flatMap_cons]
    have h2 := ih (a + 1) (by omega)
    rw [Nat.succ_mul] at h2
    rw [h2]
    congr 1
    unfold cdl
    have er : List.range' (a * 6 ^ m) (6 ^ m) = (List.range' 0 (6 ^ m)).map (fun q => a * 6 ^ m + q) := by rw [List.map_add_range', Nat.add_zero]
    rw [List.map_map, er, List.map_map]
    apply List.map_congr_left
    intro q hq
    obtain ⟨i, i1, i2⟩ := List.mem_range'.mp hq
    have hq6 : q < 6 ^ m := by omega
    show ((a * 6 ^ m + q) / 6 ^ m % 6) :: spl (a * 6 ^ m + q) m = a :: spl q m
    rw [spl_add a m q m (Nat.le_refl _), Nat.add_comm, Nat.add_mul_div_right _ _ (Nat.pow_pos (by omega)), Nat.div_eq_of_lt hq6, Nat.zero_add, Nat.mod_eq_of_lt (by omega)]
theorem cdl_s (m : Nat) : cdl (m + 1) = (List.range' 0 6).flatMap (fun x => (cdl m).map (fun s => x :: s)) := by
  have := cdl_blk m 6 0 (by omega)
  rw [Nat.zero_mul] at this
  rw [← this]
  unfold cdl
  rw [Nat.pow_succ, Nat.mul_comm]
theorem vld_app {n : Nat} {p s : List Nat} : vldB n (p ++ s) = true → vldB n p = true := by
  rw [vld_iff, vld_iff]
  rintro ⟨a, b⟩
  exact ⟨fun x hx => a x (List.mem_append_left _ hx), (List.nodup_append.mp b).1⟩
theorem vld_snoc {n : Nat} {p : List Nat} {x : Nat} (h : vldB n p = true) : vldB n (p ++ [x]) = true ↔ (x < n ∧ x ∉ p) := by
  rw [vld_iff] at h ⊢
  constructor
  · rintro ⟨a, b⟩
    refine ⟨a x (by simp), fun q => ?_⟩
    have := (List.nodup_append.mp b).2.2 x q x (by simp)
    exact this rfl
  · rintro ⟨a, b⟩
    refine ⟨fun y hy => ?_, ?_⟩
    · rcases List.mem_append.mp hy with q | q
      · exact h.1 y q
      · rw [List.mem_singleton.mp q]; exact a
    · rw [List.nodup_append]
      refine ⟨h.2, by simp, fun y hy z hz => ?_⟩
      rw [List.mem_singleton.mp hz]
      intro q
      rw [q] at hy
      exact b hy
theorem flat_nil {α β : Type} (l : List α) : l.flatMap (fun _ => ([] : List β)) = [] := by
  induction l with
  | nil => rfl
  | cons x l ih => rw [List.flatMap_cons, ih]; rfl
theorem flat_cg {α β : Type} {l : List α} {f g : α → List β} (h : ∀ x ∈ l, f x = g x) : l.flatMap f = l.flatMap g := by
  induction l with
  | nil => rfl
  | cons x l ih => rw [List.flatMap_cons, List.flatMap_cons, h x List.mem_cons_self, ih (fun y hy => h y (List.mem_cons_of_mem _ hy))]
theorem ext_cdl {n : Nat} (hn : n ≤ 6) : ∀ m pre, vldB n pre = true → ((cdl m).map (fun s => pre ++ s)).filter (vldB n) = ext n m pre := by
  intro m
  induction m with
  | zero =>
    intro pre h
    show List.filter (vldB n) [pre ++ []] = [pre]
    rw [List.append_nil, List.filter_cons_of_pos h]
    rfl
  | succ m ih =>
    intro pre h
    rw [cdl_s, List.map_flatMap, List.filter_flatMap, ext]
    have e6 : List.range' 0 6 = List.range' 0 n ++ List.range' n (6 - n) := by
      have : List.range' 0 n ++ List.range' (0 + n) (6 - n) = List.range' 0 (n + (6 - n)) := List.range'_append_1
      rw [Nat.zero_add, show n + (6 - n) = 6 by omega] at this
      exact this.symm
    rw [e6, List.flatMap_append]
    have step : ∀ x, List.filter (vldB n) (List.map (fun s => pre ++ s) (List.map (fun s => x :: s) (cdl m))) = if x < n ∧ x ∉ pre then ext n m (pre ++ [x]) else [] := by
      intro x
      have em : List.map (fun s => pre ++ s) (List.map (fun s => x :: s) (cdl m)) = List.map (fun s => (pre ++ [x]) ++ s) (cdl m) := by
        rw [List.map_map]
        apply List.map_congr_left
        intro s _
        show pre ++ x :: s = (pre ++ [x]) ++ s
        rw [List.append_assoc]
        rfl
      rw [em]
      by_cases c : x < n ∧ x ∉ pre
      · rw [if_pos c, ih _ ((vld_snoc h).mpr c)]
      · rw [if_neg c, List.filter_eq_nil_iff]
        intro s hs q
        obtain ⟨s0, _, rfl⟩ := List.mem_map.mp hs
        exact c ((vld_snoc h).mp (vld_app q))
    have h1 : (List.range' n (6 - n)).flatMap (fun x => List.filter (vldB n) (List.map (fun s => pre ++ s) (List.map (fun s => x :: s) (cdl m)))) = [] := by
      rw [← flat_nil (β := List Nat) (List.range' n (6 - n))]
      apply flat_cg
      intro x hx
      obtain ⟨i, i1, i2⟩ := List.mem_range'.mp hx
      rw [step x, if_neg (fun q => by omega)]
    rw [h1, List.append_nil]
    apply flat_cg
    intro x hx
    obtain ⟨i, i1, i2⟩ := List.mem_range'.mp hx
    rw [step x]
    by_cases c : x ∈ pre
    · rw [if_neg (fun q => q.2 c), if_pos c]
    · rw [if_pos ⟨by omega, c⟩, if_neg c]
/-- all that the class finds, all that the model finds -/
def wAll (n : Nat) (ok : List Nat → Bool) : List (List Nat) := (vis n 6 []).filter ok
def uLen (n : Nat) (ok : List Nat → Bool) (m : Nat) : List (List Nat) := (cdl m).filter (fun s => vldB n s && ok s)
theorem uLen_w {n : Nat} (hn : n ≤ 6) (ok : List Nat → Bool) {m : Nat} (h1 : 1 ≤ m) (h6 : m ≤ 6) : uLen n ok m = (wAll n ok).filter (fun s => decide (s.length = m)) := by
  obtain ⟨k, rfl⟩ : ∃ k, m = k + 1 := ⟨m - 1, by omega⟩
  have a := ext_cdl hn (k + 1) [] rfl
  have b := vis_fil n 6 k [] h6
  rw [List.map_congr_left (g := id) (fun s _ => List.nil_append s), List.map_id] at a
  have e0 : ([] : List Nat).length + (k + 1) = k + 1 := by rw [List.length_nil, Nat.zero_add]
  rw [e0] at b
  have c : uLen n ok (k + 1) = ((cdl (k + 1)).filter (vldB n)).filter ok := by
    unfold uLen
    rw [List.filter_filter]
    congr 1
    funext s
    exact Bool.and_comm _ _
  unfold wAll
  rw [c, a, ← b, List.filter_filter, List.filter_filter]
  congr 1
  funext s
  exact Bool.and_comm _ _
theorem w_len {n : Nat} (hn : n ≤ 6) {ok : List Nat → Bool} {s : List Nat} (h : s ∈ wAll n ok) : 1 ≤ s.length ∧ s.length ≤ n ∧ vldB n s = true := by
  have h : s ∈ (vis n 6 []).filter ok := h
  have h := (List.mem_filter.mp h).1
  obtain ⟨a, b, c⟩ := vis_mem n 6 [] s h
  have v := (vld_iff n s).mpr (c (fun x hx => by cases hx) List.nodup_nil)
  exact ⟨a, vld_len hn v, v⟩
