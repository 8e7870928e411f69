/-! ===== the pure machine: a memory of typed planes by pure address, one step, a run ===== -/
abbrev LV : Type := List (Nat × Value)
/-- cells made, slots made, kind of a cell, length, ints, longs, references (999999: null) -/
abbrev Mem : Type := Nat × Nat × (Nat → Nat) × (Nat → Nat) × (Nat → Nat → Int32) × (Nat → Nat → Int64) × (Nat → Nat → Nat)
def mN (M : Mem) : Nat := M.1
def mS (M : Mem) : Nat := M.2.1
def mC (M : Mem) : Nat → Nat := M.2.2.1
def mL (M : Mem) : Nat → Nat := M.2.2.2.1
def mI (M : Mem) : Nat → Nat → Int32 := M.2.2.2.2.1
def mJ (M : Mem) : Nat → Nat → Int64 := M.2.2.2.2.2.1
def mR (M : Mem) : Nat → Nat → Nat := M.2.2.2.2.2.2
def up2 {α : Type} (f : Nat → Nat → α) (a k : Nat) (v : α) : Nat → Nat → α := fun b j => if b = a ∧ j = k then v else f b j
def setI (M : Mem) (a k : Nat) (v : Int32) : Mem := (mN M, mS M, mC M, mL M, up2 (mI M) a k v, mJ M, mR M)
def setJ (M : Mem) (a k : Nat) (v : Int64) : Mem := (mN M, mS M, mC M, mL M, mI M, up2 (mJ M) a k v, mR M)
def setR (M : Mem) (a k : Nat) (v : Nat) : Mem := (mN M, mS M, mC M, mL M, mI M, mJ M, up2 (mR M) a k v)
def fresh (M : Mem) (tag len sl : Nat) : Mem := (mN M + 1, mS M + sl, va_up (mC M) (mN M) tag, va_up (mL M) (mN M) len,
  (fun b j => if b = mN M then 0 else mI M b j), (fun b j => if b = mN M then 0 else mJ M b j), (fun b j => if b = mN M then 999999 else mR M b j))
def rows : Nat → Nat → Mem → Mem
  | 0, _, M => M
  | j + 1, k, M => rows j k (fresh M 10 k k)
def grid (M : Mem) (n k : Nat) : Mem := match rows n k (fresh M 16 n n) with
  | (a, b, c, d, e, f, g) => (a, b, c, d, e, f, fun x j => if x = mN M ∧ j < n then mN M + 1 + j else g x j)
def lvG : LV → Nat → Option Value
  | [], _ => none
  | (j, v) :: r, i => if j = i then some v else lvG r i
def lvI : LV → Nat → Value → LV
  | [], i, v => [(i, v)]
  | (j, w) :: r, i, v => if i < j then (i, v) :: (j, w) :: r else (j, w) :: lvI r i v
def lvS (lv : LV) (i : Nat) (v : Value) : LV := lvI (lv.filter (fun q => !(q.1 == i) && (!(q.1 == i + 1 && v.category == 2) && !(q.1 + 1 == i && q.2.category == 2)))) i v
def lvK (ks : List Nat) (lv : LV) : LV := lv.filter (fun q => ks.contains q.1)
def asc {β : Type} : List (Nat × β) → Nat → Option β
  | [], _ => none
  | (j, b) :: r, i => if j = i then some b else asc r i
def asc2 {β : Type} : List (Nat × Nat × β) → Nat → Nat → Option β
  | [], _, _ => none
  | (o, j, b) :: r, x, i => if o = x ∧ j = i then some b else asc2 r x i
def fRes (o idx : Nat) : Option (Nat × Nat × Nat × Nat) := asc (fRs.getD o []) idx
def cRes (o idx : Nat) : Option (Nat × Nat × Nat × Nat × Nat) := asc (cRs.getD o []) idx
def fT (ci k : Nat) : Nat := if ci = 20 then (if k = 0 then 2 else 0) else (fTL.getD ci []).getD k 9
def fF (ci k : Nat) : Bool := (fFL.getD ci []).getD k true
def nf (ci : Nat) : Nat := (fTL.getD ci []).length
def pI {α : Type} (F : α) (st : List Value) (k : Int32 → List Value → α) : α := match st with
  | .int x :: r => k x r
  | _ => F
def pII {α : Type} (F : α) (st : List Value) (k : Int32 → Int32 → List Value → α) : α := match st with
  | .int y :: .int x :: r => k x y r
  | _ => F
def pL {α : Type} (F : α) (st : List Value) (k : Int64 → List Value → α) : α := match st with
  | .long x :: r => k x r
  | _ => F
def pLL {α : Type} (F : α) (st : List Value) (k : Int64 → Int64 → List Value → α) : α := match st with
  | .long y :: .long x :: r => k x y r
  | _ => F
def pR {α : Type} (F : α) (st : List Value) (k : Nat → List Value → α) : α := match st with
  | .ref a :: r => k a r
  | _ => F
def pIR {α : Type} (F : α) (st : List Value) (k : Nat → Int32 → List Value → α) : α := match st with
  | .int i :: .ref a :: r => k a i r
  | _ => F
def pLR {α : Type} (F : α) (st : List Value) (k : Nat → Int64 → List Value → α) : α := match st with
  | .long i :: .ref a :: r => k a i r
  | _ => F
def pRR {α : Type} (F : α) (st : List Value) (k : Nat → Nat → List Value → α) : α := match st with
  | .ref v :: .ref a :: r => k a v r
  | _ => F
def pIIR {α : Type} (F : α) (st : List Value) (k : Nat → Int32 → Int32 → List Value → α) : α := match st with
  | .int x :: .int i :: .ref a :: r => k a i x r
  | _ => F
def pRIR {α : Type} (F : α) (st : List Value) (k : Nat → Int32 → Nat → List Value → α) : α := match st with
  | .ref v :: .int i :: .ref a :: r => k a i v r
  | _ => F
def gI {α : Type} (F : α) (lv : LV) (i : Nat) (k : Int32 → α) : α := match lvG lv i with
  | some (.int x) => k x
  | _ => F
def gL {α : Type} (F : α) (lv : LV) (i : Nat) (k : Int64 → α) : α := match lvG lv i with
  | some (.long x) => k x
  | _ => F
def gR {α : Type} (F : α) (lv : LV) (i : Nat) (k : Nat → α) : α := match lvG lv i with
  | some (.ref x) => k x
  | _ => F
def popN : Nat → List Value → List Value → Option (List Value × List Value)
  | 0, acc, st => some (acc, st)
  | _ + 1, _, [] => none
  | n + 1, acc, v :: r => popN n (v :: acc) r
abbrev inb (i : Int32) (n : Nat) : Prop := ¬ (i < 0 ∨ n ≤ i.toNatClampNeg)
abbrev rdI (t : Nat) : Prop := t = 10 ∨ t = 17
abbrev rdB (t : Nat) : Prop := t = 12 ∨ t = 13
abbrev rdA (t : Nat) : Prop := t = 14 ∨ t = 15 ∨ t = 16
abbrev isA (t : Nat) : Prop := t = 10 ∨ t = 11 ∨ t = 12 ∨ t = 13 ∨ t = 14 ∨ t = 15 ∨ t = 16 ∨ t = 17
def jmp {α : Type} (F : α) (pc : Nat) (off : Int) (k : Nat → α) : α := if 0 ≤ (pc : Int) + off then k ((pc : Int) + off).toNat else F
def swt {α : Type} (k : Int → α) (dflt : Int) : List Int → Int → Int → α
  | [], _, _ => k dflt
  | o :: r, lo, x => if x = lo then k o else swt k dflt r (lo + 1) x
def swl {α : Type} (k : Int → α) (dflt : Int) : List (Int × Int) → Int → α
  | [], _ => k dflt
  | (a, o) :: r, x => if x = a then k o else swl k dflt r x
section Step
variable {α : Type} (F : α) (K : Nat → LV → List Value → Mem → α) (C : Nat → List Value → List Value → Nat → α) (T : Option Value → α) (d o mxl : Nat) (rt : Option FieldType) (ini : Bool) (pc : Nat) (lv : LV) (st : List Value) (M : Mem)
/-- constants, loads, stores, the stack -/
def stA (i : Instr) : α := match i with
  | .iconst n => K (pc + 1) lv (.int (Int32.ofInt n) :: st) M
  | .bipush n => K (pc + 2) lv (.int (Int8.ofInt n).toInt32 :: st) M
  | .sipush n => K (pc + 3) lv (.int (Int16.ofInt n).toInt32 :: st) M
  | .lconst n => K (pc + 1) lv (.long (Int64.ofNat (n : Nat)) :: st) M
  | .iload_n n => gI F lv n (fun x => K (pc + 1) lv (.int x :: st) M)
  | .iload n => gI F lv n (fun x => K (pc + 2) lv (.int x :: st) M)
  | .lload_n n => gL F lv n (fun x => K (pc + 1) lv (.long x :: st) M)
  | .lload n => gL F lv n (fun x => K (pc + 2) lv (.long x :: st) M)
  | .aload_n n => gR F lv n (fun x => K (pc + 1) lv (.ref x :: st) M)
  | .aload n => gR F lv n (fun x => K (pc + 2) lv (.ref x :: st) M)
  | .istore_n n => if (n : Nat) < mxl then pI F st (fun x r => K (pc + 1) (lvS lv n (.int x)) r M) else F
  | .istore n => if n < mxl then pI F st (fun x r => K (pc + 2) (lvS lv n (.int x)) r M) else F
  | .lstore_n n => if (n : Nat) + 1 < mxl then pL F st (fun x r => K (pc + 1) (lvS lv n (.long x)) r M) else F
  | .lstore n => if n + 1 < mxl then pL F st (fun x r => K (pc + 2) (lvS lv n (.long x)) r M) else F
  | .astore_n n => if (n : Nat) < mxl then pR F st (fun x r => K (pc + 1) (lvS lv n (.ref x)) r M) else F
  | .astore n => if n < mxl then pR F st (fun x r => K (pc + 2) (lvS lv n (.ref x)) r M) else F
  | .iinc n c => if n < mxl then gI F lv n (fun x => K (pc + 3) (lvS lv n (.int (x + Int32.ofInt c))) st M) else F
  | .dup => (match st with
    | .int x :: r => K (pc + 1) lv (.int x :: .int x :: r) M
    | .ref x :: r => K (pc + 1) lv (.ref x :: .ref x :: r) M
    | _ => F)
  | .dup2 => (match st with
    | .int x :: .ref y :: r => K (pc + 1) lv (.int x :: .ref y :: .int x :: .ref y :: r) M
    | _ => F)
  | .pop => (match st with
    | .int _ :: r => K (pc + 1) lv r M
    | .ref _ :: r => K (pc + 1) lv r M
    | _ => F)
  | .ldc n => (match asc2 iR o n with
    | some v => K (pc + 2) lv (.int v.1 :: st) M
    | none => if o = 5 ∧ n = 19 then K (pc + 2) lv (.ref 1000001 :: st) M else F)
  | .ldc_w n => (match asc2 iR o n with
    | some v => K (pc + 3) lv (.int v.1 :: st) M
    | none => F)
  | .ldc2_w n => (match asc2 lR o n with
    | some v => K (pc + 3) lv (.long v.1 :: st) M
    | none => F)
  | _ => F
/-- arithmetic -/
def stB (i : Instr) : α := match i with
  | .iadd => pII F st (fun x y r => K (pc + 1) lv (.int (x + y) :: r) M)
  | .isub => pII F st (fun x y r => K (pc + 1) lv (.int (x - y) :: r) M)
  | .imul => pII F st (fun x y r => K (pc + 1) lv (.int (x * y) :: r) M)
  | .iand => pII F st (fun x y r => K (pc + 1) lv (.int (x &&& y) :: r) M)
  | .ior => pII F st (fun x y r => K (pc + 1) lv (.int (x ||| y) :: r) M)
  | .ixor => pII F st (fun x y r => K (pc + 1) lv (.int (x ^^^ y) :: r) M)
  | .ishl => pII F st (fun x y r => K (pc + 1) lv (.int (x <<< (y &&& 31)) :: r) M)
  | .ishr => pII F st (fun x y r => K (pc + 1) lv (.int (x >>> (y &&& 31)) :: r) M)
  | .iushr => pII F st (fun x y r => K (pc + 1) lv (.int (x.toUInt32 >>> (y.toUInt32 &&& Int32.toUInt32 31)).toInt32 :: r) M)
  | .idiv => pII F st (fun x y r => if y = 0 then F else K (pc + 1) lv (.int (x / y) :: r) M)
  | .irem => pII F st (fun x y r => if y = 0 then F else K (pc + 1) lv (.int (x - x / y * y) :: r) M)
  | .ineg => pI F st (fun x r => K (pc + 1) lv (.int (-x) :: r) M)
  | .ladd => pLL F st (fun x y r => K (pc + 1) lv (.long (x + y) :: r) M)
  | .lmul => pLL F st (fun x y r => K (pc + 1) lv (.long (x * y) :: r) M)
  | .ldiv => pLL F st (fun x y r => if y = 0 then F else K (pc + 1) lv (.long (x / y) :: r) M)
  | .lrem => pLL F st (fun x y r => if y = 0 then F else K (pc + 1) lv (.long (x - x / y * y) :: r) M)
  | .lcmp => pLL F st (fun x y r => K (pc + 1) lv (.int (lg_cmp x y) :: r) M)
  | .i2l => pI F st (fun x r => K (pc + 1) lv (.long x.toInt64 :: r) M)
  | .l2i => pL F st (fun x r => K (pc + 1) lv (.int x.toInt32 :: r) M)
  | .i2b => pI F st (fun x r => K (pc + 1) lv (.int x.toInt8.toInt32 :: r) M)
  | .i2c => pI F st (fun x r => K (pc + 1) lv (.int (x.toUInt32 % 65536).toInt32 :: r) M)
  | _ => F
/-- jumps -/
def stJ (i : Instr) : α := match i with
  | .goto off => jmp F pc off (fun t => K t lv st M)
  | .if_icmp c off => pII F st (fun x y r => jmp F pc off (fun t => match c with
    | .eq => if x = y then K t lv r M else K (pc + 3) lv r M
    | .ne => if x = y then K (pc + 3) lv r M else K t lv r M
    | .lt => if x < y then K t lv r M else K (pc + 3) lv r M
    | .ge => if x < y then K (pc + 3) lv r M else K t lv r M
    | .gt => if y < x then K t lv r M else K (pc + 3) lv r M
    | .le => if y < x then K (pc + 3) lv r M else K t lv r M))
  | .ifCond c off => pI F st (fun x r => jmp F pc off (fun t => match c with
    | .eq => if x = 0 then K t lv r M else K (pc + 3) lv r M
    | .ne => if x = 0 then K (pc + 3) lv r M else K t lv r M
    | .lt => if x < 0 then K t lv r M else K (pc + 3) lv r M
    | .ge => if x < 0 then K (pc + 3) lv r M else K t lv r M
    | .gt => if 0 < x then K t lv r M else K (pc + 3) lv r M
    | .le => if 0 < x then K (pc + 3) lv r M else K t lv r M))
  | .tableswitch dflt lo hi offs => if hi = lo + (offs.size : Int) - 1 then pI F st (fun x r => swt (fun off => jmp F pc off (fun t => K t lv r M)) dflt offs.toList lo x.toInt) else F
  | .lookupswitch dflt ps => if (ps.toList.zip (ps.toList.drop 1)).all (fun (a, next) => a.1 < next.1) = true then pI F st (fun x r => swl (fun off => jmp F pc off (fun t => K t lv r M)) dflt ps.toList x.toInt) else F
  | _ => F
/-- the heap -/
def stH (i : Instr) : α := match i with
  | .getfield n => (match fRes o n with
    | some (ci, k, _, _) => pR F st (fun a r => if mC M a = ci then (match fT ci k with
      | 0 => K (pc + 3) lv (.int (mI M a k) :: r) M
      | 1 => K (pc + 3) lv (.long (mJ M a k) :: r) M
      | 2 => if mR M a k = 999999 then F else K (pc + 3) lv (.ref (mR M a k) :: r) M
      | _ => F) else F)
    | none => F)
  | .putfield n => (match fRes o n with
    | some (ci, k, _, _) => if ci < 8 ∧ (fF ci k = false ∨ (ini = true ∧ o = ci)) then (match fT ci k with
      | 0 => pIR F st (fun a x r => if mC M a = ci then K (pc + 3) lv r (setI M a k x) else F)
      | 1 => pLR F st (fun a x r => if mC M a = ci then K (pc + 3) lv r (setJ M a k x) else F)
      | 2 => pRR F st (fun a x r => if mC M a = ci ∧ x < 900000 then K (pc + 3) lv r (setR M a k x) else F)
      | _ => F) else F
    | none => F)
  | .getstatic n => if o = 11 ∧ n = 38 then K (pc + 3) lv (.int 1 :: st) M else F
  | .arraylength => pR F st (fun a r => if isA (mC M a) then K (pc + 1) lv (.int (nI (mL M a)) :: r) M else F)
  | .iaload => pIR F st (fun a x r => if rdI (mC M a) ∧ inb x (mL M a) then K (pc + 1) lv (.int (mI M a x.toNatClampNeg) :: r) M else F)
  | .caload => pIR F st (fun a x r => if mC M a = 11 ∧ inb x (mL M a) then K (pc + 1) lv (.int (mI M a x.toNatClampNeg) :: r) M else F)
  | .baload => pIR F st (fun a x r => if rdB (mC M a) ∧ inb x (mL M a) then K (pc + 1) lv (.int (mI M a x.toNatClampNeg) :: r) M else F)
  | .aaload => pIR F st (fun a x r => if (rdA (mC M a) ∧ inb x (mL M a)) ∧ mR M a x.toNatClampNeg ≠ 999999 then K (pc + 1) lv (.ref (mR M a x.toNatClampNeg) :: r) M else F)
  | .iastore => pIIR F st (fun a x v r => if mC M a = 10 ∧ inb x (mL M a) then K (pc + 1) lv r (setI M a x.toNatClampNeg v) else F)
  | .castore => pIIR F st (fun a x v r => if mC M a = 11 ∧ inb x (mL M a) then K (pc + 1) lv r (setI M a x.toNatClampNeg (vp_nar .char v)) else F)
  | .bastore => pIIR F st (fun a x v r => if mC M a = 12 ∧ inb x (mL M a) then K (pc + 1) lv r (setI M a x.toNatClampNeg (vp_nar .boolean v)) else F)
  | .aastore => pRIR F st (fun a x v r => if ((mC M a = 14 ∧ mC M v = 4) ∨ (mC M a = 15 ∧ mC M v = 0)) ∧ inb x (mL M a) then K (pc + 1) lv r (setR M a x.toNatClampNeg v) else F)
  | .new n => (match asc2 kR o n with
    | some q => if mN M < 800000 ∧ q.1 < 8 then K (pc + 3) lv (.ref (mN M) :: st) (fresh M q.1 0 (nf q.1)) else F
    | none => F)
  | .newarray t => pI F st (fun x r => if mN M < 800000 ∧ (¬ x < 0 ∧ x.toNatClampNeg ≤ 1000) then (match t with
    | .int => K (pc + 2) lv (.ref (mN M) :: r) (fresh M 10 x.toNatClampNeg x.toNatClampNeg)
    | .char => K (pc + 2) lv (.ref (mN M) :: r) (fresh M 11 x.toNatClampNeg x.toNatClampNeg)
    | .boolean => K (pc + 2) lv (.ref (mN M) :: r) (fresh M 12 x.toNatClampNeg x.toNatClampNeg)
    | _ => F) else F)
  | .anewarray n => (match asc2 kR o n with
    | some q => pI F st (fun x r => if mN M < 800000 ∧ (¬ x < 0 ∧ x.toNatClampNeg ≤ 1000) then (match q.1 with
      | 0 => K (pc + 3) lv (.ref (mN M) :: r) (fresh M 15 x.toNatClampNeg x.toNatClampNeg)
      | 4 => K (pc + 3) lv (.ref (mN M) :: r) (fresh M 14 x.toNatClampNeg x.toNatClampNeg)
      | _ => F) else F)
    | none => F)
  | .multianewarray n dm => if o = 6 ∧ n = 67 ∧ dm = 2 then pII F st (fun x y r => if mN M < 800000 ∧ (¬ x < 0 ∧ x.toNatClampNeg ≤ 1000) ∧ (¬ y < 0 ∧ y.toNatClampNeg ≤ 1000) then K (pc + 4) lv (.ref (mN M) :: r) (grid M x.toNatClampNeg y.toNatClampNeg) else F) else F
  | _ => F
def tagOf (c : Nat) : Nat := if c = 11 then 20 else c
/-- calls -/
def stV (i : Instr) : α := match i with
  | .invokevirtual n => (match cRes o n with
    | some (0, cm, na, _, _) => (match popN (na + 1) [] st with
      | some (.ref a :: As, rest) => if (rest.map fun v => v.category).sum ≤ 8 ∧ ((Value.ref a :: As).map fun v => v.category).sum ≤ (mt.getD cm m_LAW_law).2.2.2.1 then (if mC M a = tagOf (mt.getD cm m_LAW_law).1 then C cm (.ref a :: As) rest (pc + 3) else F) else F
      | _ => F)
    | _ => F)
  | .invokestatic n => (match cRes o n with
    | some (1, cm, na, _, _) => (match popN na [] st with
      | some (As, rest) => if (rest.map fun v => v.category).sum ≤ 8 ∧ (As.map fun v => v.category).sum ≤ (mt.getD cm m_LAW_law).2.2.2.1 then C cm As rest (pc + 3) else F
      | none => F)
    | some (4, _, _, _, _) => pII F st (fun x y r => if d = 0 then F else if (r.map fun v => v.category).sum ≤ 8 then K (pc + 3) lv (.int (if x < y then y else x) :: r) M else F)
    | some (5, _, _, _, _) => pII F st (fun x y r => if d = 0 then F else if (r.map fun v => v.category).sum ≤ 8 then K (pc + 3) lv (.int (if y < x then y else x) :: r) M else F)
    | some (6, _, _, _, _) => pI F st (fun x r => if d = 0 then F else if (r.map fun v => v.category).sum ≤ 8 then K (pc + 3) lv (.int (if 0 ≤ x then x else 0 - x) :: r) M else F)
    | some (7, _, _, _, _) => pLL F st (fun x y r => if d = 0 then F else if (r.map fun v => v.category).sum ≤ 8 then K (pc + 3) lv (.long (if y < x then x else y) :: r) M else F)
    | _ => F)
  | .invokespecial n => (match cRes o n with
    | some (2, cm, na, _, _) => (match popN (na + 1) [] st with
      | some (.ref a :: As, rest) => if (rest.map fun v => v.category).sum ≤ 8 ∧ ((Value.ref a :: As).map fun v => v.category).sum ≤ (mt.getD cm m_LAW_law).2.2.2.1 then C cm (.ref a :: As) rest (pc + 3) else F
      | _ => F)
    | some (3, _, _, _, _) => pR F st (fun _ r => if d = 0 then F else if (r.map fun v => v.category).sum ≤ 8 then K (pc + 3) lv r M else F)
    | _ => F)
  | _ => F
/-- ends -/
def stT (i : Instr) : α := match i with
  | .ireturn => (match st with
    | [.int x] => (match rt with
      | some .int => T (some (.int x))
      | some .boolean => if x = 0 ∨ x = 1 then T (some (.int x)) else F
      | some .byte => if narrow .byte (.int x) = .int x then T (some (.int x)) else F
      | _ => F)
    | _ => F)
  | .lreturn => (match st with
    | [.long x] => (match rt with
      | some .long => T (some (.long x))
      | _ => F)
    | _ => F)
  | .areturn => (match st with
    | [.ref x] => (match rt with
      | some (.object _) => T (some (.ref x))
      | _ => F)
    | _ => F)
  | .return_ => (match st with
    | [] => (match rt with
      | none => T none
      | _ => F)
    | _ => F)
  | _ => F
def grp (i : Instr) : Nat := match i with
  | .iconst _ | .bipush _ | .sipush _ | .lconst _ | .iload_n _ | .iload _ | .lload_n _ | .lload _ | .aload_n _ | .aload _ | .istore_n _ | .istore _ | .lstore_n _ | .lstore _ | .astore_n _ | .astore _ | .iinc _ _ | .dup | .dup2 | .pop | .ldc _ | .ldc_w _ | .ldc2_w _ => 0
  | .iadd | .isub | .imul | .iand | .ior | .ixor | .ishl | .ishr | .iushr | .idiv | .irem | .ineg | .ladd | .lmul | .ldiv | .lrem | .lcmp | .i2l | .l2i | .i2b | .i2c => 1
  | .goto _ | .if_icmp _ _ | .ifCond _ _ | .tableswitch _ _ _ _ | .lookupswitch _ _ => 2
  | .getfield _ | .putfield _ | .getstatic _ | .arraylength | .iaload | .caload | .baload | .aaload | .iastore | .castore | .bastore | .aastore | .new _ | .newarray _ | .anewarray _ | .multianewarray _ _ => 3
  | .invokevirtual _ | .invokestatic _ | .invokespecial _ => 4
  | _ => 5
def stC (i : Instr) : α := match grp i with
  | 0 => stA F K o mxl pc lv st M i
  | 1 => stB F K pc lv st M i
  | 2 => stJ F K pc lv st M i
  | 3 => stH F K o ini pc lv st M i
  | 4 => stV F K C d o pc lv st M i
  | _ => stT F T rt st i
end Step
def rst (m : MT) (pc : Nat) (lv : LV) : LV := match asc m.2.2.2.2.2.2.2 pc with
  | none => lv
  | some ks => lvK ks lv
/-- n steps at most, d calls deep at most -/
def run : Nat → Nat → Nat → Nat → LV → List Value → Mem → Option (Option Value × Mem)
  | 0, _, _, _, _, _, _ => none
  | n + 1, d, mi, pc, lv, st, M => match mt[mi]? with
    | none => none
    | some m => match asc m.2.2.2.2.2.2.1 pc with
      | none => none
      | some il => stC none (fun pc' lv' st' M' => run n d mi pc' (rst m pc' lv') st' M')
          (fun cm As rest pc' => match d with
            | 0 => none
            | d' + 1 => match run n d' cm 0 (lv_args 0 As) [] M with
              | none => none
              | some (r, M1) => run n (d' + 1) mi pc' (rst m pc' lv) (r.toList ++ rest) M1)
          (fun v => some (v, M)) d m.1 m.2.2.2.1 m.2.2.2.2.1 m.2.2.2.2.2.1 pc lv st M il.1
